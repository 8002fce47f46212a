import java.io.ByteArrayOutputStream;
import java.nio.charset.StandardCharsets;
import java.util.Arrays;

/** The terms of a document's bytes: what is one, and what by one step more or less is none. */
public final class DocumentBoundaryTest extends Bench {
    private static Run texts = new Run();

    public static void main(String[] args) {
        size();
        sizeInside();
        lastByte();
        lastByteInside();
        kinds();
        names();
        nameWithoutItsEnd();
        longestName();
        wholeNumbers();
        truths();
        nothing();
        textLength();
        textEnd();
        textZeros();
        documentsInside();
        rowNames();
        rowsOfManyItems();
        documentsWithNamesOfRows();
        utf8OfOneAndTwoBytes();
        utf8OfEachCharacter();
        utf8Refused();
        utf8CutShort();
        namesAreDifferent();
        mostBytes();
        depth();
        end("each boundary of a document holds");
    }

    // ---- checks

    private static void taken(String what, byte[] document) {
        for (int belt = 0; belt < 2; belt++) {
            Run x = with("{k:1}", "{l:2}");
            due("put of " + what, put(x, belt, document), 2);
            dueBytes("put of " + what, bytes(x, belt, 1), document);
        }
        due("as a stage, " + what, stage(new Run(), document) == -1, false);
    }

    private static void refused(String what, byte[] document) {
        for (int belt = 0; belt < 2; belt++) {
            Run x = with("{k:1}", "{l:2}");
            due("put of " + what, put(x, belt, document), -1);
            due("the belts stay", show(x, 0) + show(x, 1), "{k:1}{l:2}");
            dueEmptyTape(x, what);
        }
        Run x = with("{k:1}", "{l:2}");
        due("as a stage, " + what, stage(x, document), -1);
        due("the belts stay", show(x, 0) + show(x, 1), "{k:1}{l:2}");
        dueEmptyTape(x, what);
    }

    private static void check(String what, byte[] document, boolean right) {
        if (right) {
            taken(what, document);
        } else {
            refused(what, document);
        }
    }

    // ---- bytes

    private static byte[] joined(byte[]... parts) {
        ByteArrayOutputStream out = new ByteArrayOutputStream();
        for (byte[] p : parts) {
            out.writeBytes(p);
        }
        return out.toByteArray();
    }

    private static byte[] number(int value) {
        return new byte[] {(byte) value, (byte) (value >> 8), (byte) (value >> 16), (byte) (value >> 24)};
    }

    /** A document (or row) with these elements and the size that is right for them. */
    private static byte[] document(byte[]... elements) {
        byte[] all = joined(elements);
        return joined(number(all.length + 5), all, new byte[1]);
    }

    private static byte[] element(int kind, String name, byte[] value) {
        return joined(new byte[] {(byte) kind}, Tree.latin(name), new byte[1], value);
    }

    private static byte[] textOf(byte[] content) {
        return joined(number(content.length + 1), content, new byte[1]);
    }

    private static byte[] with(byte[] document, int place, int value) {
        byte[] b = document.clone();
        b[place] = (byte) value;
        return b;
    }

    private static byte[] withSize(byte[] document, int place, int size) {
        byte[] b = document.clone();
        System.arraycopy(number(size), 0, b, place, 4);
        return b;
    }

    // ---- SIZE and the last 0

    private static void size() {
        says("its SIZE (4 bytes; it counts all of it, itself and the last 0)");
        for (String d : new String[] {"{}", "{a:1}", sized(255), sized(256), sized(257), sized(511), sized(512), sized(2000)}) {
            byte[] b = Tree.encode(Tree.doc(d));
            int n = b.length;
            taken(n + " bytes", b);
            for (int size : new int[] {n - 1, n + 1, n - 4, n - 5, n + 4, 0, -1, -n, n + 256, n + 65536, n + (1 << 24),
                    n | 1 << 31, n << 8, n << 24, Integer.MAX_VALUE}) {
                refused(n + " bytes of size " + size, withSize(b, 0, size));
            }
            refused("a byte less", Arrays.copyOf(b, n - 1));
            refused("a byte less, and told so", withSize(Arrays.copyOf(b, n - 1), 0, n - 1));
            if (n < 2000) {
                refused("a byte more", Arrays.copyOf(b, n + 1));
                refused("a byte more, and told so", withSize(Arrays.copyOf(b, n + 1), 0, n + 1));
            }
        }
        for (int n = 0; n < 5; n++) {
            refused(n + " bytes", Arrays.copyOf(number(n), n));
            refused(n + " bytes of 0", new byte[n]);
        }
    }

    private static void sizeInside() {
        says("its SIZE (4 bytes; it counts all of it, itself and the last 0)");
        for (int kind = 3; kind <= 4; kind++) {
            for (byte[] inner : new byte[][] {document(), document(element(16, "0", number(7)))}) {
                int n = inner.length;
                byte[] b = document(element(kind, "a", inner), element(10, "z", new byte[0]));
                taken("inside kind " + kind, b);
                for (int size : new int[] {n - 1, n + 1, n - 4, n + 3, n + 4, n + 5, n + 6, 0, 1, 2, 3, 4, -1, n + 256,
                        n + 65536, n + (1 << 24), n | 1 << 31, Integer.MAX_VALUE}) {
                    refused("size " + size + " for " + n + " inside kind " + kind, withSize(b, 7, size));
                }
                byte[] last = document(element(kind, "a", inner));
                taken("the last element of kind " + kind, last);
                refused("over the end of the outer one", withSize(last, 7, n + 1));
                refused("over the end of the outer one", withSize(last, 7, n + 2));
                refused("shorter than the outer one", withSize(last, 7, n - 1));
            }
        }
    }

    private static void lastByte() {
        says("its ELEMENTS, a byte 0");
        for (String d : new String[] {"{}", "{a:1}", "{a:null}", "{a:\"\"}", "{a:{}}", "{a:[]}", "{a:true}"}) {
            byte[] b = Tree.encode(Tree.doc(d));
            taken(d, b);
            for (int last = 1; last < 256; last++) {
                Run x = with("{k:1}", "");
                due(d + " with " + last + " at its end", put(x, 0, with(b, b.length - 1, last)), -1);
                due("the belt stays", x.many(0, 0), 1);
            }
            refused(d + " with 1 at its end", with(b, b.length - 1, 1));
        }
        refused("a 0 ahead of the last element", document(new byte[1], element(10, "a", new byte[0])));
        refused("two 0s", document(element(10, "a", new byte[0]), new byte[1]));
        refused("two 0s and nothing else", document(new byte[1]));
        refused("three 0s", document(new byte[2]));
    }

    private static void lastByteInside() {
        says("its ELEMENTS, a byte 0");
        for (int kind = 3; kind <= 4; kind++) {
            byte[] b = document(element(kind, "a", document(element(16, "0", number(1)))));
            taken("kind " + kind, b);
            for (int last : new int[] {1, 2, 10, 128, 255}) {
                refused("kind " + kind + " with " + last + " at its end", with(b, b.length - 2, last));
            }
        }
    }

    // ---- kinds and names

    private static void kinds() {
        says("its KIND (a byte) .. 16 .. 18 .. 8 .. 10 .. 2 .. 3 .. 4");
        byte[][] values = {new byte[0], new byte[1], new byte[4], new byte[8], number(5), document(), textOf(new byte[0]),
            {1}, {0, 0}, new byte[12], new byte[16]};
        String[] fitting = {"10", "8", "16", "18", "16", "3 4", "2", "8", "", "", ""};
        for (int kind = 0; kind < 256; kind++) {
            for (int i = 0; i < values.length; i++) {
                boolean right = Arrays.asList(fitting[i].split(" ")).contains(Integer.toString(kind));
                Run x = new Run();
                int answer = put(x, 0, document(element(kind, "a", values[i])));
                due("kind " + kind + " with value " + i, answer, right ? 1 : -1);
                due("kind " + kind + " with value " + i, x.many(0, 0), right ? 1 : 0);
            }
        }
        for (int kind : new int[] {0, 1, 5, 7, 9, 11, 15, 17, 19, 34, 48, 50, 128 + 10, 255}) {
            refused("kind " + kind, document(element(kind, "a", new byte[0])));
            refused("kind " + kind, document(element(kind, "a", new byte[8])));
        }
    }

    private static void names() {
        says("its NAME (any bytes but 0, right UTF-8), a byte 0");
        taken("no name", document(element(10, "", new byte[0])));
        for (int octet = 1; octet < 256; octet++) {
            String name = Character.toString((char) octet);
            check("a name of byte " + octet, document(element(10, name, new byte[0])), octet < 128);
            check("a name ending in byte " + octet, document(element(10, "ab" + name, new byte[0])), octet < 128);
        }
        // A 0 ends the name; what is behind it is the value, or the next element.
        refused("a 0 in the name", document(element(10, "a\0b", new byte[0])));
        taken("a 0 behind the name, and an element", document(element(10, "a\0\nb", new byte[0])));
    }

    private static void nameWithoutItsEnd() {
        says("its NAME .., a byte 0");
        refused("a kind alone", document(new byte[] {10}));
        refused("a kind and a name", document(new byte[] {10, 'a'}));
        taken("a kind, a name and a 0", document(new byte[] {10, 'a', 0}));
        refused("a second kind alone", document(element(10, "a", new byte[0]), new byte[] {10}));
        refused("a second kind and a name", document(element(10, "a", new byte[0]), new byte[] {10, 'b'}));
        taken("a second kind, a name and a 0", document(element(10, "a", new byte[0]), new byte[] {10, 'b', 0}));
        refused("inside, a kind alone", document(element(3, "a", document(new byte[] {10}))));
        refused("inside, a kind and a name", document(element(3, "a", document(new byte[] {10, 'b'}))));
        refused("inside a row, a kind and a name", document(element(4, "a", document(new byte[] {10, '0'}))));
    }

    private static void longestName() {
        says("its NAME (any bytes but 0, right UTF-8), a byte 0");
        byte[] b = document(element(10, "n".repeat(1993), new byte[0]));
        due("2,000 bytes", b.length, 2000);
        taken("a name of 1,993 bytes", b);
        refused("a name of 1,994 bytes without its 0", with(b, 1998, 'n'));
    }

    // ---- values without a length

    private static void wholeNumbers() {
        says("16 a WHOLE number of 32 bits (4 bytes), 18 one of 64 bits (8 bytes)");
        for (int kind : new int[] {16, 18}) {
            int right = kind == 16 ? 4 : 8;
            for (int fill : new int[] {0, 1, 127, 128, 255}) {
                for (int length = 0; length <= 12; length++) {
                    byte[] value = new byte[length];
                    Arrays.fill(value, (byte) fill);
                    check("kind " + kind + " of " + length + " bytes", document(element(kind, "a", value)), length == right);
                }
            }
            // Too short by one with an element behind it, whose kind would be taken for the last byte.
            byte[] value = new byte[right - 1];
            refused("kind " + kind, document(element(kind, "a", value), element(10, "b", new byte[0])));
            taken("kind " + kind, document(element(kind, "a", new byte[right]), element(10, "b", new byte[0])));
        }
        for (String n : new String[] {"0", "-1", "2147483647", "-2147483648", "0L", "-1L", "9223372036854775807L",
                "-9223372036854775808L"}) {
            taken(n, Tree.encode(Tree.doc("{a:" + n + "}")));
        }
    }

    private static void truths() {
        says("8 a TRUTH (a byte 0 or 1)");
        for (int truth = 0; truth < 256; truth++) {
            check("truth " + truth, document(element(8, "a", new byte[] {(byte) truth})), truth <= 1);
        }
        refused("a truth of no bytes", document(element(8, "a", new byte[0])));
        refused("a truth of two bytes", document(element(8, "a", new byte[] {1, 0})));
        for (int truth : new int[] {0, 1, 2}) {
            check("inside a row", document(element(4, "a", document(element(8, "0", new byte[] {(byte) truth})))), truth < 2);
        }
    }

    private static void nothing() {
        says("10 NOTHING (no bytes)");
        taken("no bytes", document(element(10, "a", new byte[0])));
        refused("a byte", document(element(10, "a", new byte[1])));
        refused("a byte", document(element(10, "a", new byte[] {1})));
        refused("four bytes", document(element(10, "a", new byte[4])));
    }

    // ---- TEXT

    private static void textLength() {
        says("2 a TEXT: n (4 bytes, at least 1), n - 1 bytes ..");
        for (int length : new int[] {0, 1, 2, 254, 255, 256, 1987}) {
            byte[] content = new byte[length];
            Arrays.fill(content, (byte) 'x');
            byte[] b = document(element(2, "a", textOf(content)));
            taken("a text of " + length, b);
            int n = length + 1;
            for (int wrong : new int[] {n - 1, n + 1, n + 2, 0, -1, Integer.MIN_VALUE, Integer.MAX_VALUE, n + 256, n + 65536,
                    n + (1 << 24), n | 1 << 31, -n}) {
                refused("n " + wrong + " for " + n, withSize(b, 7, wrong));
            }
        }
        taken("n 1", document(element(2, "a", unhex("01000000 00"))));
        refused("n 0", document(element(2, "a", unhex("00000000"))));
        refused("n 0 and a 0", document(element(2, "a", unhex("00000000 00"))));
        refused("n -1", document(element(2, "a", unhex("ffffffff"))));
        for (int length = 0; length < 4; length++) {
            refused("an n of " + length + " bytes", document(element(2, "a", Arrays.copyOf(number(1), length))));
        }
        // Over the end of a document inside, but not of the outer one.
        byte[] inside = document(element(3, "a", document(element(2, "b", textOf(new byte[] {'x'})))),
            element(2, "c", textOf(new byte[] {'y'})));
        taken("a text inside", inside);
        for (int wrong : new int[] {1, 3, 4, 5, 6}) {
            refused("a text inside, of n " + wrong, withSize(inside, 14, wrong));
        }
    }

    private static void textEnd() {
        says("2 a TEXT: .., a byte 0");
        byte[] b = document(element(2, "a", textOf(new byte[] {'x', 'y'})), element(10, "b", new byte[0]));
        taken("a text with its 0", b);
        for (int last = 1; last < 256; last += 1 + last / 9) {
            refused("a text that ends in " + last, with(b, 13, last));
        }
        byte[] none = document(element(2, "a", textOf(new byte[0])));
        taken("an empty text with its 0", none);
        refused("an empty text that ends in x", with(none, 11, 'x'));
    }

    private static void textZeros() {
        says("(0 may be among them)");
        for (byte[] content : new byte[][] {{0}, {0, 0}, {'a', 0}, {0, 'a'}, {'a', 0, 'b'}, new byte[1987]}) {
            taken("a text with 0s", document(element(2, "a", textOf(content))));
        }
    }

    // ---- documents and rows inside

    private static void documentsInside() {
        says("3 a DOCUMENT; 4 a ROW");
        for (int kind = 3; kind <= 4; kind++) {
            taken("the least", document(element(kind, "a", document())));
            refused("of 4 bytes", document(element(kind, "a", number(4))));
            refused("of 4 bytes and a 0", document(element(kind, "a", joined(number(4), new byte[1]))));
            for (int length = 0; length < 4; length++) {
                refused("a size of " + length + " bytes", document(element(kind, "a", Arrays.copyOf(number(5), length))));
            }
            byte[] bad = document(element(16, "0", new byte[3]));
            refused("with a wrong element", document(element(kind, "a", bad)));
            refused("with a wrong element deeper", document(element(kind, "a", document(element(3, "0", bad)))));
        }
    }

    private static void rowNames() {
        says("4 a ROW: as a document whose names are 0, 1, 2, .. in decimal digits, in this order");
        String[] right = {"", "0", "0 1", "0 1 2", "0 1 2 3 4 5 6 7 8 9", "0 1 2 3 4 5 6 7 8 9 10",
            "0 1 2 3 4 5 6 7 8 9 10 11"};
        String[] wrong = {"1", "2", "00", "01", "-0", "+0", "a", "0a", "0 ", " 0", "0.", "/", ":", "0 0", "0 2", "1 0", "0 01",
            "0 1 1", "0 2 1", "0 1 3", "1 2 3", "0 1 2 3 4 5 6 7 8 9 :", "0 1 2 3 4 5 6 7 8 9 010", "0 1 2 3 4 5 6 7 8 9 0",
            "0 1 2 3 4 5 6 7 8 9 11", "0 1 2 3 4 5 6 7 8 9 1", "0 1 2 3 4 5 6 7 8 9 100", "0 1 2 3 4 5 6 7 8 9 A"};
        for (String names : right) {
            taken("a row " + names, rowNamed(names.isEmpty() ? new String[0] : names.split(" ")));
        }
        for (String names : wrong) {
            refused("a row " + names, rowNamed(names.equals("0 ") || names.equals(" 0") ? new String[] {names} : names.split(" ")));
        }
        refused("a row without a name", rowNamed(""));
        refused("a row without a second name", rowNamed("0", ""));
        refused("a row of other digits", rowNamed("\u00d9\u00a0"));
        refused("a row in a row", document(element(4, "a", document(element(4, "0", document(element(10, "1", new byte[0])))))));
    }

    private static byte[] rowNamed(String... names) {
        byte[][] items = new byte[names.length][];
        for (int i = 0; i < names.length; i++) {
            items[i] = element(10, names[i], new byte[0]);
        }
        return document(element(4, "a", document(items)));
    }

    private static void rowsOfManyItems() {
        says("whose names are 0, 1, 2, .. in decimal digits, in this order");
        // 419 items of NOTHING make 1,998 bytes, and one more would be too many.
        String[] names = new String[419];
        for (int i = 0; i < names.length; i++) {
            names[i] = Integer.toString(i);
        }
        due("its bytes", rowNamed(names).length, 1998);
        taken("a row of 419", rowNamed(names));
        for (int at : new int[] {0, 9, 10, 11, 19, 99, 100, 101, 199, 255, 256, 257, 399, 418}) {
            String[] others = names.clone();
            others[at] = Integer.toString(at + 1);
            refused("a row with " + (at + 1) + " in place of " + at, rowNamed(others));
            others[at] = Integer.toString(at == 0 ? 9 : at - 1);
            refused("a row with one less in place of " + at, rowNamed(others));
        }
        refused("99 and 0100", rowNamed(withLast(Arrays.copyOf(names, 101), "0100")));
        taken("99 and 100", rowNamed(Arrays.copyOf(names, 101)));
        refused("99 and 00", rowNamed(withLast(Arrays.copyOf(names, 101), "00")));
    }

    private static String[] withLast(String[] names, String last) {
        names[names.length - 1] = last;
        return names;
    }

    private static void documentsWithNamesOfRows() {
        says("4 a ROW: as a document whose names are ..");
        for (String names : new String[] {"1", "00", "a", "0 2", "2 1", "0 01"}) {
            byte[] row = rowNamed(names.split(" "));
            refused("a row with the names " + names, row);
            taken("a document with the names " + names, with(row, 4, 3));
        }
        taken("an outermost one with any names", document(element(10, "7", new byte[0]), element(10, "0", new byte[0])));
    }

    // ---- UTF-8

    private static void utf8(byte[] b, boolean right) {
        check("a text of " + Arrays.toString(b), document(element(2, "a", textOf(b))), right);
        check("a name of " + Arrays.toString(b), document(element(10, Tree.latin(b), new byte[0])), right);
    }

    /** One object for many texts, as far as its calls go. */
    private static boolean textIsTaken(byte[] b) {
        byte[] d = document(element(2, "a", textOf(b)));
        if (texts.changes() + d.length / 20 + 3 > Run.CALLS_MOST) {
            texts = new Run();
        }
        boolean is = put(texts, 0, d) == 1;
        due("documents behind it", texts.clear(0), is ? 1 : 0);
        return is;
    }

    private static void utf8OfOneAndTwoBytes() {
        says("Right UTF-8: characters up to 1114111 .., each in its shortest form.");
        for (int a = 0; a < 256; a++) {
            due("a text of byte " + a, textIsTaken(new byte[] {(byte) a}), a < 128);
            for (int b = 0; b < 256; b++) {
                boolean right = a < 128 && b < 128 || a >= 0xC2 && a <= 0xDF && b >= 0x80 && b <= 0xBF;
                if (a >= 0x7F || b >= 0x7F && a < 2) {
                    due("a text of bytes " + a + ", " + b, textIsTaken(new byte[] {(byte) a, (byte) b}), right);
                }
            }
        }
    }

    private static void utf8OfEachCharacter() {
        says("Right UTF-8: characters up to 1114111 but 55296 to 57343");
        StringBuilder some = new StringBuilder();
        for (int c = 1; c <= 1114111; c++) {
            if (c < 55296 || c > 57343) {
                some.appendCodePoint(c);
            }
            if (some.length() > 900 || c == 1114111) {
                byte[] b = some.toString().getBytes(StandardCharsets.UTF_8);
                for (int from = 0; from < b.length; ) {
                    int to = endOfCharacters(b, from);
                    due("characters up to " + c, textIsTaken(Arrays.copyOfRange(b, from, to)), true);
                    from = to;
                }
                some.setLength(0);
            }
        }
        for (int edge : new int[] {1, 127, 128, 2047, 2048, 4095, 4096, 53247, 53248, 55295, 57344, 65533, 65535, 65536, 262143,
                262144, 1048575, 1048576, 1114111}) {
            utf8(Character.toString(edge).getBytes(StandardCharsets.UTF_8), true);
        }
    }

    /** Where no more than a document holds of them is at its end. */
    private static int endOfCharacters(byte[] b, int from) {
        int to = Math.min(b.length, from + 1980);
        while (to < b.length && (b[to] & 0xC0) == 0x80) {
            to--;
        }
        return to;
    }

    private static void utf8Refused() {
        says("but 55296 to 57343, each in its shortest form");
        for (int c = 55296; c <= 57343; c++) {
            due("character " + c, textIsTaken(long3(c)), false);
        }
        utf8(long3(55295), true);
        utf8(long3(55296), false);
        utf8(long3(56319), false);
        utf8(long3(56320), false);
        utf8(long3(57343), false);
        utf8(long3(57344), true);
        utf8(long4(1114111), true);
        utf8(long4(1114112), false);
        utf8(long4(1179647), false);
        utf8(long4(1310720), false);
        utf8(long4(2097151), false);
        utf8(long2(128), true);
        utf8(long2(127), false);
        utf8(long2(0), false);
        utf8(long2(64), false);
        utf8(long3(2048), true);
        utf8(long3(2047), false);
        utf8(long3(128), false);
        utf8(long3(0), false);
        utf8(long4(65536), true);
        utf8(long4(65535), false);
        utf8(long4(2048), false);
        utf8(long4(0), false);
        // Two halves that other forms write one character with.
        utf8(joined(long3(55357), long3(56832)), false);
        for (String hex : new String[] {"f8 88 80 80 80", "fc 84 80 80 80 80", "fe", "ff", "80", "bf"}) {
            utf8(unhex(hex), false);
        }
    }

    private static byte[] long2(int c) {
        return new byte[] {(byte) (0xC0 | c >> 6), (byte) (0x80 | c & 63)};
    }

    private static byte[] long3(int c) {
        return new byte[] {(byte) (0xE0 | c >> 12), (byte) (0x80 | c >> 6 & 63), (byte) (0x80 | c & 63)};
    }

    private static byte[] long4(int c) {
        return new byte[] {(byte) (0xF0 | c >> 18), (byte) (0x80 | c >> 12 & 63), (byte) (0x80 | c >> 6 & 63),
            (byte) (0x80 | c & 63)};
    }

    private static void utf8CutShort() {
        says("Right UTF-8");
        for (int c : new int[] {128, 2047, 2048, 55295, 57344, 65535, 65536, 1114111}) {
            byte[] b = Character.toString(c).getBytes(StandardCharsets.UTF_8);
            utf8(joined(b, b), true);
            for (int n = 1; n < b.length; n++) {
                utf8(Arrays.copyOf(b, n), false);
                utf8(joined(new byte[] {'a'}, Arrays.copyOf(b, n)), false);
                utf8(joined(Arrays.copyOf(b, n), new byte[] {'a'}), false);
                utf8(joined(Arrays.copyOf(b, n), b), false);
            }
            utf8(joined(b, new byte[] {(byte) 0x80}), false);
            for (int i = 1; i < b.length; i++) {
                utf8(with(b, i, 0x7F), false);
                utf8(with(b, i, 0xC0), false);
                utf8(with(b, i, 0xFF), false);
                due("a 0 in a character", textIsTaken(with(b, i, 0)), false);
            }
        }
        // The 0 behind a text is no byte of a character.
        byte[] cut = document(element(2, "a", joined(number(2), new byte[] {(byte) 0xC2, 0})));
        refused("a character cut by the end of its text", cut);
    }

    // ---- names of one document

    private static void namesAreDifferent() {
        says("The names of one document are different.");
        String[][] pairs = {{"a", "b"}, {"a", "A"}, {"a", "ab"}, {"ab", "a"}, {"ab", "ba"}, {"", "a"}, {"a", ""}, {"a", "a "},
            {"\u00c3\u00a9", "\u00c3\u00a8"}, {"abc", "abd"}, {"0", "00"}};
        for (String[] pair : pairs) {
            for (String name : pair) {
                refused("twice " + name, twoNamed(name, name));
            }
            taken("different " + pair[0] + ", " + pair[1], twoNamed(pair[0], pair[1]));
        }
        for (String d : new String[] {"{a:1, b:2, c:3, d:4}", "{a:{a:1}, b:{a:1}}", "{a:[{a:1}, {a:1}]}", "{a:{b:1}, b:1}",
                "{a:[1, [2]], \"0\":[3]}"}) {
            taken(d, Tree.encode(Tree.doc(d)));
        }
        for (String d : new String[] {"{a:1, b:2, c:3, a:4}", "{a:1, b:2, c:3, c:4}", "{a:1, b:2, b:3, c:4}", "{a:1, a:2, c:3}",
                "{a:{b:1, b:1}}", "{a:[{b:1, c:2, b:\"\"}]}", "{a:1, b:{}, a:null}", "{a:{a:1}, b:2, a:{a:1}}"}) {
            refused(d, Tree.encode(Tree.doc(d)));
        }
        byte[][] many = new byte[120][];
        for (int i = 0; i < many.length; i++) {
            many[i] = element(10, "name" + i, new byte[0]);
        }
        taken("120 names", document(many));
        many[119] = many[0];
        refused("the last as the first", document(many));
        many[119] = many[118];
        refused("the last as the one ahead of it", document(many));
        byte[][] most = new byte[320][];
        for (int i = 0; i < most.length; i++) {
            most[i] = element(10, "n" + i, new byte[0]);
        }
        taken("320 names", document(most));
        for (int as : new int[] {0, 3, 4, 7, 8, 15, 16, 199, 200, 255, 256, 318}) {
            byte[][] twice = most.clone();
            twice[319] = most[as];
            refused("the last as number " + as, document(twice));
        }
    }

    private static byte[] twoNamed(String a, String b) {
        return document(element(16, a, number(1)), element(10, b, new byte[0]));
    }

    // ---- limits

    private static void mostBytes() {
        says("A document has at most 2,000 bytes");
        taken("1,999 bytes", Tree.encode(Tree.doc(sized(1999))));
        taken("2,000 bytes", Tree.encode(Tree.doc(sized(2000))));
        // Of 2,001 bytes the tape takes 2,000: these are no document.
        byte[] b = Tree.encode(Tree.doc(sized(2001)));
        Run x = with("{k:1}", "");
        send(x, b);
        due("2,001 bytes", x.put(0, 2001), -2);
        due("2,000 of 2,001 bytes", x.put(0, 2000), -1);
        due("the belt stays", show(x, 0), "{k:1}");
        // A stage can make one of 2,000, and none of 2,001.
        Run y = with("{a:" + text(1000) + "}", "");
        refuse(y, 5, "{$project:{a:true, b:" + text(981) + "}}");
        due("2,000 bytes by a stage", stage(y, "{$project:{a:true, b:" + text(979) + "}}"), 1);
        due("2,000 bytes by a stage", y.size(0, 0), 2000);
        refuse(with("{a:" + text(1000) + "}", ""), 5, "{$project:{a:true, b:" + text(980) + "}}");
    }

    private static void depth() {
        says("documents and rows lie at most 16 deep, the outermost one being 1 deep");
        for (int depth = 1; depth <= 20; depth++) {
            check(depth + " deep", Tree.encode(Tree.doc(deep(depth))), depth <= 16);
            if (depth > 1) {
                check(depth + " deep by rows", Tree.encode(Tree.doc("{a:" + deepRow(depth - 1) + "}")), depth <= 16);
            }
            check(depth + " deep by empty ones", Tree.encode(Tree.doc(nested(depth - 1, "{", "a:", "{}", "}"))), depth <= 16);
            check(depth + " deep behind others", Tree.encode(Tree.doc("{x:1, y:{}, z:[{}, []], a:"
                + (depth > 3 ? deep(depth - 1) : "1") + ", b:2}")), depth <= 16);
        }
        String by2 = nested(8, "{", "a:[", "1", "]}");
        taken("16 deep by both", Tree.encode(Tree.doc(by2)));
        refused("17 deep by both", Tree.encode(Tree.doc("{b:" + by2 + "}")));
        refused("17 deep by both", Tree.encode(Tree.doc(by2.replace("[1]", "[{}]"))));
        refused("17 deep by both", Tree.encode(Tree.doc(by2.replace("[1]", "[1, []]"))));
        // Side by side they are no deeper.
        taken("40 side by side", Tree.encode(Tree.doc("{a:[" + "{}, ".repeat(39) + "{}]}")));
        taken("twice 16 deep", Tree.encode(Tree.doc("{a:" + deep(15) + ", b:" + deep(15) + "}")));
        refused("16 and 17 deep", Tree.encode(Tree.doc("{a:" + deep(15) + ", b:" + deep(16) + "}")));
        refused("far deeper than any", Tree.encode(Tree.doc(deep(240))));
    }
}
