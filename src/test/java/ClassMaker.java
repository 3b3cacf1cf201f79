import java.io.ByteArrayOutputStream;
import java.util.ArrayList;
import java.util.HashMap;
import java.util.List;
import java.util.Map;

/** Puts a class file together for the tests, and remembers where its items came to lie. */
final class ClassMaker {
    /** An attribute: the number of its name, and its bytes. */
    record Attribute(int name, byte[] bytes) {
    }

    static final class Member {
        int flags = 9;
        int name;
        int type;
        final List<Attribute> attributes = new ArrayList<>();
        int at; // the place of its flags
        final List<Integer> attributesAt = new ArrayList<>();
    }

    final List<byte[]> entries = new ArrayList<>(); // null behind a long
    final List<Integer> entriesAt = new ArrayList<>();
    private final Map<String, Integer> known = new HashMap<>();
    final List<Member> fields = new ArrayList<>();
    final List<Member> methods = new ArrayList<>();
    final List<Attribute> attributes = new ArrayList<>();
    final List<Integer> attributesAt = new ArrayList<>();
    int poolCount = -1; // -1: as many as there are
    int flags = 33;
    int own;
    int above;
    int behindAbove;
    int headAt;
    int fieldsAt;
    int methodsAt;
    int fileAttributesAt;
    int behind; // bytes behind the file's attributes

    ClassMaker() {
        this("Above");
    }

    ClassMaker(String classAbove) {
        own = type("Own");
        above = type(classAbove);
    }

    static byte[] bytes(int... values) {
        byte[] bytes = new byte[values.length];
        for (int i = 0; i < values.length; i++) {
            bytes[i] = (byte) values[i];
        }
        return bytes;
    }

    int entry(int... values) {
        entries.add(bytes(values));
        return entries.size();
    }

    private int once(String key, int... values) {
        Integer number = known.get(key);
        if (number == null) {
            number = entry(values);
            known.put(key, number);
        }
        return number;
    }

    int rawName(String text) {
        int[] values = new int[3 + text.length()];
        values[0] = 1;
        values[1] = text.length() >> 8;
        values[2] = text.length();
        for (int i = 0; i < text.length(); i++) {
            values[3 + i] = text.charAt(i);
        }
        return entry(values);
    }

    int name(String text) {
        Integer number = known.get("name " + text);
        if (number == null) {
            number = rawName(text);
            known.put("name " + text, number);
        }
        return number;
    }

    int type(String text) {
        int name = name(text);
        return once("class " + text, 7, name >> 8, name);
    }

    int pair(int first, int second) {
        return once("pair " + first + " " + second, 12, first >> 8, first, second >> 8, second);
    }

    int reference(int tag, int owner, int pair) {
        return once("reference " + tag + " " + owner + " " + pair, tag, owner >> 8, owner, pair >> 8, pair);
    }

    int field(String name, String type) {
        return reference(9, type("Own"), pair(name(name), name(type)));
    }

    int method(String name, String type) {
        return reference(10, type("Own"), pair(name(name), name(type)));
    }

    int number(int v) {
        return once("int " + v, 3, v >> 24, v >> 16, v >> 8, v);
    }

    int number(long v) {
        Integer number = known.get("long " + v);
        if (number == null) {
            int high = (int) (v >> 32);
            int low = (int) v;
            number = entry(5, high >> 24, high >> 16, high >> 8, high, low >> 24, low >> 16, low >> 8, low);
            entries.add(null);
            known.put("long " + v, number);
        }
        return number;
    }

    Member addField(String name, String type) {
        Member field = new Member();
        field.name = name(name);
        field.type = name(type);
        fields.add(field);
        return field;
    }

    Member addMethod(String name, String type, Body body) {
        Member method = new Member();
        method.name = name(name);
        method.type = name(type);
        method.attributes.add(new Attribute(name("Code"), body.bytes()));
        methods.add(method);
        return method;
    }

    /** A file with one method that is m(type), and its body. */
    static ClassMaker of(String type, Body body) {
        ClassMaker maker = new ClassMaker();
        maker.addMethod("m", type, body);
        return maker;
    }

    static void two(ByteArrayOutputStream out, int v) {
        out.write(v >> 8);
        out.write(v);
    }

    static void four(ByteArrayOutputStream out, int v) {
        two(out, v >> 16);
        two(out, v);
    }

    byte[] make() {
        ByteArrayOutputStream out = new ByteArrayOutputStream();
        four(out, 0xCAFEBABE);
        four(out, 49);
        two(out, poolCount < 0 ? entries.size() + 1 : poolCount);
        entriesAt.clear();
        entriesAt.add(-1);
        for (byte[] entry : entries) {
            entriesAt.add(out.size());
            if (entry != null) {
                out.write(entry, 0, entry.length);
            }
        }
        headAt = out.size();
        two(out, flags);
        two(out, own);
        two(out, above);
        two(out, behindAbove);
        fieldsAt = out.size();
        makeMembers(out, fields);
        methodsAt = out.size();
        makeMembers(out, methods);
        fileAttributesAt = out.size();
        makeAttributes(out, attributes, attributesAt);
        for (int i = 0; i < behind; i++) {
            out.write(0);
        }
        return out.toByteArray();
    }

    private static void makeMembers(ByteArrayOutputStream out, List<Member> members) {
        two(out, members.size());
        for (Member member : members) {
            member.at = out.size();
            two(out, member.flags);
            two(out, member.name);
            two(out, member.type);
            makeAttributes(out, member.attributes, member.attributesAt);
        }
    }

    private static void makeAttributes(ByteArrayOutputStream out, List<Attribute> attributes, List<Integer> places) {
        places.clear();
        two(out, attributes.size());
        for (Attribute attribute : attributes) {
            places.add(out.size());
            two(out, attribute.name);
            four(out, attribute.bytes.length);
            out.write(attribute.bytes, 0, attribute.bytes.length);
        }
    }

    /** The place of the code's first byte in the file, if Code is the method's first attribute. */
    int codeAt(int m) {
        return methods.get(m).attributesAt.get(0) + 14;
    }
}
