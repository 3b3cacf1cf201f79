import java.util.ArrayList;
import java.util.Arrays;
import java.util.HashMap;
import java.util.HashSet;
import java.util.List;
import java.util.Map;
import java.util.Set;

/**
 * The rules of layout and the checking once more, written as plainly as can be and with nothing of the
 * program's: texts, maps and sweeps till nothing changes. The tests ask both and compare.
 */
final class Naive {
    static final class Fault extends RuntimeException {
        private static final long serialVersionUID = 1;
        final int rule;
        final int place;

        Fault(int rule, int place) {
            super(null, null, false, false);
            this.rule = rule;
            this.place = place;
        }
    }

    private record Entry(int at, int tag, int first, int second, String text) {
    }

    private record Attribute(int at, int name, int begin, int end) {
    }

    private static final class Member {
        int at;
        int name;
        int type;
        List<Attribute> attributes;
    }

    private static final class Ins {
        int at;
        int op; // as in the file, but for wide
        int length;
        int local;
        String takes;
        String gives;
        final List<Integer> targets = new ArrayList<>();
    }

    private record Catch(int from, int to, int at) {
    }

    private static final class Body {
        String parameters;
        String result;
        int stack;
        int locals;
        int begin;
        int length;
        int catchesAt;
        int catchCount;
        final List<Ins> row = new ArrayList<>();
        final Map<Integer, Integer> starts = new HashMap<>();
        final List<Catch> catches = new ArrayList<>();
        int[] heights;
    }

    private final byte[] bytes;
    private int at;
    private int limit;
    private int limitRule = 2;
    private Entry[] pool;
    private int head;
    private List<Member> fields;
    private List<Member> methods;
    private final List<Body> bodies = new ArrayList<>();
    int rule;
    int place = -1;

    Naive(byte[] bytes) {
        this.bytes = bytes;
        this.limit = bytes.length;
        try {
            walk();
            rules6to12();
            rules13to16();
            for (int m = 0; m < bodies.size(); m++) {
                check(m, bodies.get(m));
            }
        } catch (Fault fault) {
            rule = fault.rule;
            place = fault.place;
        }
    }

    int[] heights(int m) {
        return bodies.get(m).heights;
    }

    /** I, J and N for ints, one letter for each parameter. */
    String parameters(int m) {
        return bodies.get(m).parameters;
    }

    int methodCount() {
        return methods.size();
    }

    private int number(int where, int width) {
        int v = 0;
        for (int i = 0; i < width; i++) {
            v = v << 8 | (where + i < bytes.length ? bytes[where + i] & 255 : 0);
        }
        return v;
    }

    private int take(int width) {
        if (at + width > limit) {
            throw new Fault(limitRule, limit);
        }
        at += width;
        return number(at - width, width);
    }

    private void pass(long width) {
        if (at + width > limit) {
            throw new Fault(limitRule, limit);
        }
        at += (int) width;
    }

    private void walk() {
        String want = "cafebabe00000031";
        for (int i = 0; i < 8; i++) {
            if (take(1) != Integer.parseInt(want.substring(2 * i, 2 * i + 2), 16)) {
                throw new Fault(1, i);
            }
        }
        int count = take(2);
        if (count < 1 || count > 500) {
            throw new Fault(5, 8);
        }
        pool = new Entry[70000];
        for (int n = 1; n < count; n++) {
            pool[n] = entry();
            if (pool[n].tag == 5) {
                n++;
            }
        }
        head = at;
        pass(8);
        fields = members();
        methods = members();
        fileAttributes = attributes();
    }

    private List<Attribute> fileAttributes;

    private Entry entry() {
        int tagAt = at;
        int tag = take(1);
        switch (tag) {
            case 1: {
                int length = take(2);
                String text = "";
                if (length < 1 || length > 100) {
                    throw new Fault(4, tagAt);
                }
                for (int i = 0; i < length && at + i < bytes.length; i++) {
                    text += (char) number(at + i, 1);
                }
                if (!text.matches("[!-~]*")) {
                    throw new Fault(4, tagAt);
                }
                pass(length);
                return new Entry(tagAt, 1, 0, 0, text);
            }
            case 3:
                take(4);
                return new Entry(tagAt, 3, 0, 0, "");
            case 5:
                take(8);
                return new Entry(tagAt, 5, 0, 0, "");
            case 7:
                return new Entry(tagAt, 7, take(2), 0, "");
            case 9:
            case 10:
            case 12:
                return new Entry(tagAt, tag, take(2), take(2), "");
            default:
                throw new Fault(3, tagAt);
        }
    }

    private List<Member> members() {
        int countAt = at;
        int count = take(2);
        if (count > 24) {
            throw new Fault(5, countAt);
        }
        List<Member> members = new ArrayList<>();
        for (int k = 0; k < count; k++) {
            Member member = new Member();
            member.at = at;
            take(2);
            member.name = take(2);
            member.type = take(2);
            member.attributes = attributes();
            members.add(member);
        }
        return members;
    }

    private List<Attribute> attributes() {
        List<Attribute> attributes = new ArrayList<>();
        int count = take(2);
        for (int k = 0; k < count; k++) {
            int attribute = at;
            int name = take(2);
            long length = take(4) & 0xFFFFFFFFL;
            int begin = at;
            pass(length);
            attributes.add(new Attribute(attribute, name, begin, at));
        }
        return attributes;
    }

    private int tag(int n) {
        return pool[n] == null ? 0 : pool[n].tag;
    }

    private void want(boolean right, int brokenRule, int where) {
        if (!right) {
            throw new Fault(brokenRule, where);
        }
    }

    private static final String METHOD = "\\((I|J|\\[I)*\\)(I|J|\\[I|V)";

    private static final String FIELD = "I|J|\\[I";

    private void rules6to12() {
        for (Entry e : pool) {
            if (e != null) {
                boolean right = e.tag == 7 ? tag(e.first) == 1 : e.tag == 12 ? tag(e.first) == 1 && tag(e.second) == 1
                    : e.tag != 9 && e.tag != 10 || tag(e.first) == 7 && tag(e.second) == 12;
                want(right, 6, e.at);
            }
        }
        want(number(head, 2) == 33, 7, head);
        List<Member> all = new ArrayList<>(fields);
        all.addAll(methods);
        for (Member member : all) {
            want(number(member.at, 2) == 9, 7, member.at);
        }
        want(tag(number(head + 2, 2)) == 7, 8, head + 2);
        want(tag(number(head + 4, 2)) == 7, 8, head + 4);
        want(number(head + 6, 2) == 0, 8, head + 6);
        for (Member member : all) {
            want(tag(member.name) == 1, 9, member.at + 2);
            want(tag(member.type) == 1, 9, member.at + 4);
            for (Attribute attribute : member.attributes) {
                want(tag(attribute.name) == 1, 9, attribute.at);
            }
        }
        for (Attribute attribute : fileAttributes) {
            want(tag(attribute.name) == 1, 9, attribute.at);
        }
        rules10to12();
    }

    private void rules10to12() {
        for (Entry e : pool) {
            if (e != null && (e.tag == 9 || e.tag == 10)) {
                String type = pool[pool[e.second].second].text;
                want(type.matches(e.tag == 9 ? FIELD : METHOD), 10, e.at);
            }
        }
        for (Member field : fields) {
            want(pool[field.type].text.matches(FIELD), 10, field.at + 4);
        }
        for (Member method : methods) {
            String type = pool[method.type].text;
            want(type.matches(METHOD) && places(parametersOf(type)) <= 8, 10, method.at + 4);
        }
        for (List<Member> members : List.of(fields, methods)) {
            Set<String> names = new HashSet<>();
            for (Member member : members) {
                want(names.add(pool[member.name].text), 11, member.at + 2);
            }
        }
        for (Member method : methods) {
            int codes = 0;
            for (Attribute attribute : method.attributes) {
                codes += pool[attribute.name].text.equals("Code") ? 1 : 0;
            }
            want(codes == 1, 12, method.at);
        }
        want(at == bytes.length, 17, at);
    }

    private static String lettersOf(String type) {
        return type.replace("[I", "N").replace("V", "");
    }

    private static String parametersOf(String type) {
        return lettersOf(type.substring(1, type.indexOf(')')));
    }

    private static int places(String letters) {
        return letters.length() + letters.replaceAll("[^J]", "").length();
    }

    private void rules13to16() {
        for (Member method : methods) {
            for (Attribute attribute : method.attributes) {
                if (pool[attribute.name].text.equals("Code")) {
                    bodies.add(body(pool[method.type].text, attribute));
                }
            }
        }
        for (Body body : bodies) {
            row(body);
        }
        for (Body body : bodies) {
            for (Ins ins : body.row) {
                want(points(body, ins), 16, ins.at);
            }
            for (int c = 0; c < body.catchCount; c++) {
                int where = body.catchesAt + 8 * c;
                int[] parts = new int[4];
                for (int p = 0; p < 4; p++) {
                    parts[p] = number(where + 2 * p, 2);
                }
                boolean ends = body.starts.containsKey(parts[1]) || parts[1] == body.length;
                boolean right = body.starts.containsKey(parts[0]) && ends && body.starts.containsKey(parts[2]) && parts[0] < parts[1];
                String name = tag(parts[3]) == 7 ? pool[pool[parts[3]].first].text : "";
                want(right && (parts[3] == 0 || name.matches("(Divide|Null|Index|Size)Error")), 16, where);
                int to = parts[1] == body.length ? body.row.size() : body.starts.get(parts[1]);
                body.catches.add(new Catch(body.starts.get(parts[0]), to, body.starts.get(parts[2])));
            }
        }
    }

    private Body body(String type, Attribute attribute) {
        Body body = new Body();
        body.parameters = parametersOf(type);
        body.result = lettersOf(type.substring(type.indexOf(')') + 1));
        at = attribute.begin;
        limit = attribute.end;
        limitRule = 14;
        body.stack = take(2);
        want(body.stack <= 24, 13, at - 2);
        body.locals = take(2);
        want(body.locals <= 24 && body.locals >= places(body.parameters), 13, at - 2);
        body.length = take(4);
        want(body.length >= 1 && body.length <= 1200, 13, at - 4);
        body.begin = at;
        pass(body.length);
        body.catchCount = take(2);
        want(body.catchCount <= 16, 13, at - 2);
        body.catchesAt = at;
        pass(8L * body.catchCount);
        attributes();
        want(at == limit, 14, at);
        return body;
    }

    private static final String LISTED = " 0 1 2 3 4 5 6 7 8 9 10 16 17 18 19 20 21 22 25 26 27 28 29 30 31 32 33 42 43 44 45 46"
        + " 54 55 58 59 60 61 62 63 64 65 66 75 76 77 78 79 87 88 89 90 92 95 96 97 100 101 104 105 108 109 112 113 116 117"
        + " 120 121 122 123 124 125 126 127 128 129 130 131 132 133 136 145 146 147 148 153 154 155 156 157 158 159 160 161"
        + " 162 163 164 165 166 167 170 171 172 173 176 177 178 179 184 188 190 191 196 198 199 200 ";

    private static final String TWO_BYTES = " 16 18 21 22 25 54 55 58 188 ";

    private static final String THREE_BYTES = " 17 19 20 132 153 154 155 156 157 158 159 160 161 162 163 164 165 166 167 178 179 184"
        + " 198 199 ";

    private static boolean in(String list, int op) {
        return list.contains(" " + op + " ");
    }

    private void row(Body body) {
        int offset = 0;
        while (offset < body.length) {
            Ins ins = new Ins();
            ins.at = body.begin + offset;
            ins.op = number(ins.at, 1);
            ins.length = length(body, ins, offset);
            want(ins.length > 0 && offset + ins.length <= body.length, 15, ins.at);
            body.starts.put(offset, body.row.size());
            body.row.add(ins);
            offset += ins.length;
        }
    }

    private int length(Body body, Ins ins, int offset) {
        int op = ins.op;
        int next = number(ins.at + 1, 1);
        if (!in(LISTED, op) || op == 188 && next != 10) {
            return 0;
        }
        if (op == 196) {
            return next == 132 ? 6 : in(" 21 22 25 54 55 58 ", next) ? 4 : 0;
        }
        if (op == 170 || op == 171) {
            int operands = offset + 1;
            while (operands % 4 != 0) {
                operands++;
            }
            if (operands + (op == 170 ? 12 : 8) > body.length) {
                return 0;
            }
            long first = number(body.begin + operands + 4, 4);
            long second = number(body.begin + operands + 8, 4);
            long pairs = op == 170 ? second - first + 1 : first;
            if (pairs < (op == 170 ? 1 : 0) || pairs > (op == 170 ? 201 : 200)) {
                return 0;
            }
            for (int pair = 1; op == 171 && pair < pairs; pair++) {
                int where = body.begin + operands + 8 + 8 * pair;
                if (number(where, 4) <= number(where - 8, 4)) {
                    return 0;
                }
            }
            return operands - offset + (op == 170 ? 12 + 4 * (int) pairs : 8 + 8 * (int) pairs);
        }
        return op == 200 ? 5 : in(TWO_BYTES, op) ? 2 : in(THREE_BYTES, op) ? 3 : 1;
    }

    private boolean target(Body body, Ins ins, int offset) {
        long place = (long) ins.at - body.begin + offset;
        if (place < 0 || place > 5000 || !body.starts.containsKey((int) place)) {
            return false;
        }
        ins.targets.add(body.starts.get((int) place));
        return true;
    }

    private boolean local(Body body, Ins ins, int op, int local, int width) {
        ins.op = op;
        ins.local = local;
        return local + width <= body.locals;
    }

    private boolean points(Body body, Ins ins) {
        int op = ins.op;
        int one = number(ins.at + 1, 1);
        int two = number(ins.at + 1, 2);
        types(body, ins);
        if (op == 196) {
            return local(body, ins, one, number(ins.at + 2, 2), one == 22 || one == 55 ? 2 : 1);
        }
        if (in(" 21 22 25 54 55 58 132 ", op)) {
            return local(body, ins, op, one, op == 22 || op == 55 ? 2 : 1);
        }
        if (op >= 26 && op <= 45) {
            return local(body, ins, op < 30 ? 21 : op < 34 ? 22 : 25, (op - 2) % 4, op >= 30 && op < 34 ? 2 : 1);
        }
        if (op >= 59 && op <= 78) {
            return local(body, ins, op < 63 ? 54 : op < 67 ? 55 : 58, (op - 3) % 4, op >= 63 && op < 67 ? 2 : 1);
        }
        if (op == 18 || op == 19) {
            return tag(op == 18 ? one : two) == 3;
        }
        if (op == 20) {
            return tag(two) == 5;
        }
        if (op == 178 || op == 179 || op == 184) {
            return member(ins, op, two);
        }
        if (op == 200) {
            return target(body, ins, number(ins.at + 1, 4));
        }
        if (op >= 153 && op <= 167 || op == 198 || op == 199) {
            return target(body, ins, (short) two);
        }
        return op != 170 && op != 171 || switched(body, ins);
    }

    private boolean switched(Body body, Ins ins) {
        int operands = ins.at - body.begin + 1;
        while (operands % 4 != 0) {
            operands++;
        }
        operands += body.begin;
        if (!target(body, ins, number(operands, 4))) {
            return false;
        }
        boolean table = ins.op == 170;
        for (int where = operands + 12; where < ins.at + ins.length; where += table ? 4 : 8) {
            if (!target(body, ins, number(where, 4))) {
                return false;
            }
        }
        return true;
    }

    private boolean member(Ins ins, int op, int n) {
        if (tag(n) != (op == 184 ? 10 : 9)) {
            return false;
        }
        String owner = pool[pool[pool[n].first].first].text;
        String own = pool[pool[number(head + 2, 2)].first].text;
        String name = pool[pool[pool[n].second].first].text;
        String type = pool[pool[pool[n].second].second].text;
        for (Member member : op == 184 ? methods : fields) {
            if (owner.equals(own) && pool[member.name].text.equals(name) && pool[member.type].text.equals(type)) {
                ins.takes = op == 184 ? parametersOf(type) : op == 179 ? lettersOf(type) : "";
                ins.gives = op == 184 ? lettersOf(type.substring(type.indexOf(')') + 1)) : op == 178 ? lettersOf(type) : "";
                return true;
            }
        }
        return false;
    }

    // What is taken > given; locals, shuffles and members are by themselves.
    private static final String[] TYPES = {"0>", "1>0", "2 3 4 5 6 7 8 16 17 18 19>I", "9 10 20>J", "46>I", "54 59 60 61 62 I>",
        "46 NI>I", "79 NII>", "96 100 104 108 112 120 122 124 126 128 130 II>I", "97 101 105 109 113 127 129 131 JJ>J",
        "116 145 146 147 I>I", "117 J>J", "121 123 125 JI>J", "133 I>J", "136 J>I", "148 JJ>I",
        "153 154 155 156 157 158 170 171 172 I>", "159 160 161 162 163 164 II>", "165 166 AA>", "167 200 177>", "198 199 A>",
        "173 J>", "176 N>", "188 I>N", "190 N>I", "191 E>"};

    private void types(Body body, Ins ins) {
        ins.takes = "";
        ins.gives = "";
        for (String line : TYPES) {
            String[] sides = line.split(">", -1);
            if (in(" " + sides[0] + " ", ins.op)) {
                String last = sides[0].substring(sides[0].lastIndexOf(' ') + 1);
                ins.takes = last.matches("[A-Z]+") ? last : "";
                ins.gives = sides[1];
            }
        }
    }

    // Heights: one step of the naive search looks at all that can come, and adds what comes of it.

    private static String heightsOf(Ins ins) {
        switch (ins.op) {
            case 21:
            case 25:
                return "0 1";
            case 22:
                return "0 2";
            case 54:
            case 58:
                return "1 0";
            case 55:
                return "2 0";
            case 87:
                return "1 0";
            case 88:
                return "2 0";
            case 89:
                return "1 2";
            case 90:
                return "2 3";
            case 92:
                return "2 4";
            case 95:
                return "2 2";
            default:
                return places(ins.takes) + " " + places(ins.gives);
        }
    }

    private static boolean ends(Ins ins) {
        return in(" 167 200 170 171 172 173 176 177 191 ", ins.op);
    }

    private static List<Integer> nexts(Body body, int i) {
        List<Integer> nexts = new ArrayList<>(body.row.get(i).targets);
        if (!ends(body.row.get(i))) {
            nexts.add(i + 1);
        }
        return nexts;
    }

    private void check(int m, Body body) {
        int n = body.row.size();
        boolean[][] come = new boolean[n][25];
        boolean[] bad = new boolean[n];
        come[0][0] = true;
        boolean more = true;
        while (more) {
            more = false;
            for (int i = 0; i < n; i++) {
                for (int h = 0; h < 25; h++) {
                    if (come[i][h]) {
                        more |= spread(body, i, h, come, bad);
                    }
                }
            }
        }
        body.heights = new int[n];
        for (int i = 0; i < n; i++) {
            int count = 0;
            body.heights[i] = -1;
            for (int h = 0; h < 25; h++) {
                if (come[i][h]) {
                    count++;
                    body.heights[i] = h;
                }
            }
            bad[i] |= count > 1;
        }
        types(m, body, bad);
    }

    private static boolean spread(Body body, int i, int h, boolean[][] come, boolean[] bad) {
        Ins ins = body.row.get(i);
        String[] both = heightsOf(ins).split(" ");
        int left = h - Integer.parseInt(both[0]);
        int after = left + Integer.parseInt(both[1]);
        boolean caught = false;
        for (Catch c : body.catches) {
            caught |= c.from <= i && i < c.to;
        }
        if (left < 0 || after > body.stack || caught && body.stack < 1 || nexts(body, i).contains(body.row.size())) {
            bad[i] = true;
            return false;
        }
        boolean more = false;
        for (int next : nexts(body, i)) {
            more |= !come[next][after];
            come[next][after] = true;
        }
        for (Catch c : body.catches) {
            if (c.from <= i && i < c.to) {
                more |= !come[c.at][1];
                come[c.at][1] = true;
            }
        }
        return more;
    }

    // Types: a frame is a text, its locals first. I int, L and H halves, N ints, E error, 0 null, X none.

    private static char join(char a, char b) {
        if (a == b) {
            return a;
        }
        if (a == '0' && (b == 'N' || b == 'E')) {
            return b;
        }
        return b == '0' && (a == 'N' || a == 'E') ? a : 'X';
    }

    private static String spelled(String letters) {
        return letters.replace("J", "LH");
    }

    private void types(int m, Body body, boolean[] bad) {
        int n = body.row.size();
        String[] frames = new String[n];
        char[] none = new char[body.locals];
        Arrays.fill(none, 'X');
        String begin = spelled(body.parameters);
        come(frames, bad, 0, begin + new String(none).substring(begin.length()));
        boolean more = true;
        while (more) {
            more = false;
            for (int i = 0; i < n; i++) {
                if (frames[i] != null) {
                    String after = through(body, i, frames[i], new boolean[1]);
                    for (int next : nexts(body, i)) {
                        more |= come(frames, bad, next, after);
                    }
                    for (Catch c : body.catches) {
                        if (c.from <= i && i < c.to) {
                            more |= come(frames, bad, c.at, frames[i].substring(0, body.locals) + "E");
                        }
                    }
                }
            }
        }
        for (int i = 0; i < n; i++) {
            boolean[] wrong = new boolean[1];
            if (frames[i] != null) {
                through(body, i, frames[i], wrong);
            }
            want(!bad[i] && !wrong[0], 100, 2000 * m + i);
        }
    }

    private static boolean come(String[] frames, boolean[] bad, int i, String frame) {
        if (bad[i]) {
            return false;
        }
        String joined = frame;
        if (frames[i] != null) {
            joined = "";
            for (int p = 0; p < frame.length(); p++) {
                joined += join(frames[i].charAt(p), frame.charAt(p));
            }
        }
        boolean more = !joined.equals(frames[i]);
        frames[i] = joined;
        return more;
    }

    private static String copy(String kinds) {
        return kinds.replaceAll("[LH]", "X");
    }

    private static boolean fits(String takes, String kinds) {
        String pattern = spelled(takes).replace("N", "[N0]").replace("E", "[E0]").replace("A", "[NE0]");
        return kinds.matches(pattern);
    }

    private static String through(Body body, int i, String frame, boolean[] wrong) {
        Ins ins = body.row.get(i);
        String locals = frame.substring(0, body.locals);
        String stack = frame.substring(body.locals);
        int k = ins.local;
        int taken = Integer.parseInt(heightsOf(ins).split(" ")[0]);
        String top = stack.substring(stack.length() - taken);
        String below = stack.substring(0, stack.length() - taken);
        switch (ins.op) {
            case 21:
                wrong[0] = locals.charAt(k) != 'I';
                return frame + "I";
            case 22:
                wrong[0] = !locals.startsWith("LH", k);
                return frame + "LH";
            case 25:
                wrong[0] = "NE0".indexOf(locals.charAt(k)) < 0;
                return frame + copy(locals.substring(k, k + 1));
            case 132:
                wrong[0] = locals.charAt(k) != 'I';
                return frame;
            case 54:
                wrong[0] = !top.equals("I");
                return stored(locals, k, "I") + below;
            case 55:
                wrong[0] = !top.equals("LH");
                return stored(locals, k, "LH") + below;
            case 58:
                wrong[0] = "NE0".indexOf(top) < 0;
                return stored(locals, k, copy(top)) + below;
            case 87:
            case 88:
            case 89:
            case 90:
            case 92:
            case 95:
                boolean whole = top.equals("LH") && (ins.op == 88 || ins.op == 92);
                wrong[0] = !whole && !top.matches("[INE0]*");
                return locals + below + shuffled(ins.op, whole ? top : copy(top));
            default:
                wrong[0] = !fits(ins.takes, top)
                    || ins.op >= 172 && ins.op <= 177 && !body.result.equals(new String[] {"I", "J", "", "", "N", ""}[ins.op - 172]);
                return locals + below + spelled(ins.gives);
        }
    }

    private static String shuffled(int op, String top) {
        switch (op) {
            case 89:
                return top + top;
            case 90:
                return top.substring(1) + top;
            case 92:
                return top + top;
            case 95:
                return top.substring(1) + top.substring(0, 1);
            default:
                return "";
        }
    }

    private static String stored(String locals, int k, String kinds) {
        StringBuilder after = new StringBuilder(locals);
        after.replace(k, k + kinds.length(), kinds);
        if (k > 0 && after.charAt(k - 1) == 'L') {
            after.setCharAt(k - 1, 'X');
        }
        int behind = k + kinds.length();
        if (behind < locals.length() && after.charAt(behind) == 'H') {
            after.setCharAt(behind, 'X');
        }
        return after.toString();
    }
}
