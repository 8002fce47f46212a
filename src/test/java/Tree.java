import java.io.ByteArrayOutputStream;
import java.nio.ByteBuffer;
import java.nio.charset.CharacterCodingException;
import java.nio.charset.StandardCharsets;
import java.util.ArrayList;
import java.util.HashSet;
import java.util.List;
import java.util.Set;

/**
 * Documents as trees, for the tests: to and from bytes, and to and from a notation such as
 * {a:1, b:2L, c:"x", d:null, e:true, f:[1,{g:[]}]}. Texts and names hold one character for each byte.
 */
final class Tree {
    interface Value { }
    enum None implements Value { MISSING, NOTHING }
    record Num(int kind, long value) implements Value { }
    record Text(String bytes) implements Value { }
    record Truth(boolean value) implements Value { }
    record Part(String name, Value value) { }
    record Doc(List<Part> parts) implements Value {
        Value get(String name) {
            for (Part p : parts) {
                if (p.name().equals(name)) {
                    return p.value();
                }
            }
            return None.MISSING;
        }
    }
    record Row(List<Value> items) implements Value { }

    private Tree() { }

    // ---- ORDER

    static int classOf(Value v) {
        if (v == None.MISSING) return 0;
        if (v == None.NOTHING) return 1;
        if (v instanceof Num) return 2;
        if (v instanceof Text) return 3;
        if (v instanceof Doc) return 4;
        if (v instanceof Row) return 5;
        return 6;
    }

    static int compare(Value a, Value b) {
        if (classOf(a) != classOf(b)) return classOf(a) - classOf(b);
        if (a instanceof Num x && b instanceof Num y) return Long.compare(x.value(), y.value());
        if (a instanceof Text x && b instanceof Text y) return x.bytes().compareTo(y.bytes());
        if (a instanceof Truth x && b instanceof Truth y) return Boolean.compare(x.value(), y.value());
        if (a instanceof Doc x && b instanceof Doc y) {
            for (int i = 0; i < x.parts().size() && i < y.parts().size(); i++) {
                Part p = x.parts().get(i);
                Part q = y.parts().get(i);
                int c = classOf(p.value()) - classOf(q.value());
                if (c == 0) c = p.name().compareTo(q.name());
                if (c == 0) c = compare(p.value(), q.value());
                if (c != 0) return c;
            }
            return x.parts().size() - y.parts().size();
        }
        if (a instanceof Row x && b instanceof Row y) {
            for (int i = 0; i < x.items().size() && i < y.items().size(); i++) {
                int c = compare(x.items().get(i), y.items().get(i));
                if (c != 0) return c;
            }
            return x.items().size() - y.items().size();
        }
        return 0;
    }

    static int depth(Value v) {
        int below = 0;
        if (v instanceof Doc d) {
            for (Part p : d.parts()) below = Math.max(below, depth(p.value()));
            return below + 1;
        }
        if (v instanceof Row r) {
            for (Value i : r.items()) below = Math.max(below, depth(i));
            return below + 1;
        }
        return 0;
    }

    // ---- bytes

    static byte[] encode(Value v) {
        ByteArrayOutputStream out = new ByteArrayOutputStream();
        if (v instanceof Num n) number(out, n.value(), n.kind() == 16 ? 4 : 8);
        if (v instanceof Truth t) out.write(t.value() ? 1 : 0);
        if (v instanceof Text t) {
            number(out, t.bytes().length() + 1, 4);
            out.writeBytes(latin(t.bytes()));
            out.write(0);
        }
        if (v instanceof Doc d) {
            for (Part p : d.parts()) part(out, p.name(), p.value());
            return wrapped(out);
        }
        if (v instanceof Row r) {
            for (int i = 0; i < r.items().size(); i++) part(out, Integer.toString(i), r.items().get(i));
            return wrapped(out);
        }
        return out.toByteArray();
    }

    private static void part(ByteArrayOutputStream out, String name, Value v) {
        out.write(kind(v));
        out.writeBytes(latin(name));
        out.write(0);
        out.writeBytes(encode(v));
    }

    private static int kind(Value v) {
        if (v instanceof Num n) return n.kind();
        return new int[] {0, 10, 0, 2, 3, 4, 8}[classOf(v)];
    }

    private static byte[] wrapped(ByteArrayOutputStream body) {
        ByteArrayOutputStream out = new ByteArrayOutputStream();
        number(out, body.size() + 5, 4);
        out.writeBytes(body.toByteArray());
        out.write(0);
        return out.toByteArray();
    }

    private static void number(ByteArrayOutputStream out, long value, int length) {
        for (int i = 0; i < length; i++) out.write((int) (value >> 8 * i));
    }

    static byte[] latin(String s) {
        return s.getBytes(StandardCharsets.ISO_8859_1);
    }

    static String latin(byte[] b) {
        return new String(b, StandardCharsets.ISO_8859_1);
    }

    /** The document that the bytes are, or null. */
    static Doc decode(byte[] bytes) {
        try {
            ByteBuffer in = ByteBuffer.wrap(bytes).order(java.nio.ByteOrder.LITTLE_ENDIAN);
            Doc d = doc(in, 1, false);
            return in.hasRemaining() ? null : d;
        } catch (java.nio.BufferUnderflowException | IllegalArgumentException e) {
            return null;
        }
    }

    private static void need(boolean right) {
        if (!right) throw new IllegalArgumentException();
    }

    private static Doc doc(ByteBuffer in, int depth, boolean row) {
        need(depth <= 16);
        int start = in.position();
        int size = in.getInt();
        need(size >= 5 && size <= 2000);
        List<Part> parts = new ArrayList<>();
        Set<String> names = new HashSet<>();
        for (int kind = in.get(); kind != 0; kind = in.get()) {
            String name = name(in);
            need(names.add(name));
            need(!row || name.equals(Integer.toString(parts.size())));
            parts.add(new Part(name, value(in, kind, depth)));
        }
        need(in.position() - start == size);
        return new Doc(parts);
    }

    private static String name(ByteBuffer in) {
        ByteArrayOutputStream out = new ByteArrayOutputStream();
        for (byte b = in.get(); b != 0; b = in.get()) out.write(b);
        return utf8(out.toByteArray());
    }

    private static String utf8(byte[] b) {
        try {
            StandardCharsets.UTF_8.newDecoder().decode(ByteBuffer.wrap(b));
        } catch (CharacterCodingException e) {
            throw new IllegalArgumentException(e);
        }
        return latin(b);
    }

    private static Value value(ByteBuffer in, int kind, int depth) {
        switch (kind) {
            case 16: return new Num(16, in.getInt());
            case 18: return new Num(18, in.getLong());
            case 8:
                int b = in.get();
                need(b == 0 || b == 1);
                return new Truth(b == 1);
            case 10: return None.NOTHING;
            case 2:
                int n = in.getInt();
                need(n >= 1 && n <= in.remaining());
                byte[] text = new byte[n - 1];
                in.get(text);
                need(in.get() == 0);
                return new Text(utf8(text));
            case 3: return doc(in, depth + 1, false);
            case 4:
                List<Value> items = new ArrayList<>();
                for (Part p : doc(in, depth + 1, true).parts()) items.add(p.value());
                return new Row(items);
            default: throw new IllegalArgumentException();
        }
    }

    // ---- notation

    static String show(Value v) {
        StringBuilder s = new StringBuilder();
        show(s, v);
        return s.toString();
    }

    private static void show(StringBuilder s, Value v) {
        if (v == None.MISSING) s.append("missing");
        if (v == None.NOTHING) s.append("null");
        if (v instanceof Num n) s.append(n.value()).append(n.kind() == 18 ? "L" : "");
        if (v instanceof Truth t) s.append(t.value());
        if (v instanceof Text t) s.append('"').append(t.bytes()).append('"');
        String between = "";
        if (v instanceof Doc d) {
            s.append('{');
            for (Part p : d.parts()) {
                s.append(between).append(p.name().matches("[\\w$.]+") ? p.name() : '"' + p.name() + '"').append(':');
                show(s, p.value());
                between = ", ";
            }
            s.append('}');
        }
        if (v instanceof Row r) {
            s.append('[');
            for (Value i : r.items()) {
                s.append(between);
                show(s, i);
                between = ", ";
            }
            s.append(']');
        }
    }

    static Doc doc(String notation) {
        return (Doc) read(notation);
    }

    static Value read(String notation) {
        int[] at = {0};
        Value v = readValue(notation, at);
        if (at[0] != notation.length()) throw new IllegalArgumentException("more in " + notation);
        return v;
    }

    private static Value readValue(String s, int[] at) {
        blanks(s, at);
        char c = s.charAt(at[0]);
        Value v;
        if (c == '{') {
            List<Part> parts = new ArrayList<>();
            while (more(s, at, '}')) {
                String name = word(s, at);
                take(s, at, ':');
                parts.add(new Part(name, readValue(s, at)));
            }
            v = new Doc(parts);
        } else if (c == '[') {
            List<Value> items = new ArrayList<>();
            while (more(s, at, ']')) items.add(readValue(s, at));
            v = new Row(items);
        } else if (c == '"') {
            v = new Text(word(s, at));
        } else {
            String w = word(s, at);
            if (w.equals("null")) v = None.NOTHING;
            else if (w.equals("true") || w.equals("false")) v = new Truth(w.equals("true"));
            else if (w.endsWith("L")) v = new Num(18, Long.parseLong(w.substring(0, w.length() - 1)));
            else v = new Num(16, Integer.parseInt(w));
        }
        blanks(s, at);
        return v;
    }

    /** Goes over the bracket or comma; false at the closing bracket. */
    private static boolean more(String s, int[] at, char close) {
        char c = s.charAt(at[0]);
        if (c != close) {
            at[0]++;
            blanks(s, at);
        }
        if (s.charAt(at[0]) == close) {
            at[0]++;
            return false;
        }
        return true;
    }

    private static String word(String s, int[] at) {
        blanks(s, at);
        int from = at[0];
        if (s.charAt(from) == '"') {
            at[0] = s.indexOf('"', from + 1) + 1;
            return s.substring(from + 1, at[0] - 1);
        }
        while (at[0] < s.length() && ":,{}[] ".indexOf(s.charAt(at[0])) < 0) at[0]++;
        return s.substring(from, at[0]);
    }

    private static void take(String s, int[] at, char c) {
        blanks(s, at);
        if (s.charAt(at[0]) != c) throw new IllegalArgumentException(s + " at " + at[0]);
        at[0]++;
        blanks(s, at);
    }

    private static void blanks(String s, int[] at) {
        while (at[0] < s.length() && s.charAt(at[0]) == ' ') at[0]++;
    }
}
