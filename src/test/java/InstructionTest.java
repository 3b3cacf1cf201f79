import java.util.Arrays;

/** Promises 4, 5 and 6 for the rules 15 and 16: the row of instructions, and what they and catches point to. */
public final class InstructionTest {
    // Instructions by their length in bytes; the rest of the 256 is none, or looked at by itself.
    private static final int[][] BY_LENGTH = {
        {},
        {0, 1, 2, 3, 4, 5, 6, 7, 8, 9, 10, 26, 27, 28, 29, 30, 31, 32, 33, 42, 43, 44, 45, 46, 59, 60, 61, 62, 63, 64,
            65, 66, 75, 76, 77, 78, 79, 87, 88, 89, 90, 92, 95, 96, 97, 100, 101, 104, 105, 108, 109, 112, 113, 116, 117,
            120, 121, 122, 123, 124, 125, 126, 127, 128, 129, 130, 131, 133, 136, 145, 146, 147, 148, 172, 173, 176, 177,
            190, 191},
        {16, 18, 21, 22, 25, 54, 55, 58},
        {17, 19, 20, 132, 153, 154, 155, 156, 157, 158, 159, 160, 161, 162, 163, 164, 165, 166, 167, 178, 179, 184, 198, 199},
        {},
        {200},
    };

    public static void main(String[] args) {
        everyInstructionHasItsLength();
        newIntsAndWide();
        tables();
        lookups();
        methodsInTheirOrder();
        jumpsGoToInstructions();
        localsAreBelowMostLocals();
        constantsTellTheirSort();
        membersAreOfThisClass();
        catchesPoint();
        pointsInTheirOrder();
        Due.close();
    }

    private static ClassMaker raw(int... code) {
        return ClassMaker.of("()V", new Body(0, 0).put(code));
    }

    /** The code as it stands breaks rule 15 at this byte of it. */
    private static void broken(String what, int place, int... code) {
        ClassMaker maker = raw(code);
        byte[] bytes = maker.make();
        Due.breaks(what, 15, maker.codeAt(0) + place, bytes);
    }

    /** The code is a row of whole instructions: at most a later rule breaks, or the checking. */
    private static void whole(String what, int... code) {
        CodeMachine x = new CodeMachine();
        Due.feed(x, raw(code).make());
        int fault = x.load();
        Due.is(what + ": load()", true, fault == 0 || fault == 16 || fault == 100);
    }

    private static int lengthOf(int op) {
        for (int length = 1; length < BY_LENGTH.length; length++) {
            for (int listed : BY_LENGTH[length]) {
                if (listed == op) {
                    return length;
                }
            }
        }
        return 0;
    }

    private static void everyInstructionHasItsLength() {
        for (int op = 0; op < 256; op++) {
            int length = lengthOf(op);
            if (op == 170 || op == 171 || op == 188 || op == 196) {
                continue;
            }
            if (length == 0) {
                broken("no instruction " + op, 0, op, 0, 0, 0, 0, 0, 0, 0);
                broken("no instruction " + op, 2, 16, 5, op, 0, 0, 0);
                continue;
            }
            int[] code = new int[length];
            code[0] = op;
            whole("instruction " + op, code);
            for (int cut = 1; cut < length; cut++) {
                broken("cut " + op, 0, Arrays.copyOf(code, cut));
            }
            int[] twice = Arrays.copyOf(code, length + 1);
            twice[length] = 11;
            broken("behind " + op, length, twice);
        }
    }

    private static void newIntsAndWide() {
        whole("new ints", 188, 10);
        broken("new, cut", 0, 188);
        for (int of = 0; of < 256; of++) {
            if (of != 10) {
                broken("new of " + of, 1, 3, 188, of);
            }
        }
        broken("wide, cut", 0, 196);
        for (int op = 0; op < 256; op++) {
            boolean local = op == 21 || op == 22 || op == 25 || op == 54 || op == 55 || op == 58;
            int length = local ? 4 : op == 132 ? 6 : 0;
            if (length == 0) {
                broken("wide " + op, 1, 0, 196, op, 0, 0, 0, 0);
                continue;
            }
            int[] code = {196, op, 0, 0, 0, 0};
            whole("wide " + op, Arrays.copyOf(code, length));
            for (int cut = 1; cut < length; cut++) {
                broken("wide, cut " + op, 0, Arrays.copyOf(code, cut));
            }
        }
    }

    private static int[] four(int... values) {
        int[] bytes = new int[4 * values.length];
        for (int i = 0; i < bytes.length; i++) {
            bytes[i] = values[i / 4] >> 8 * (3 - i % 4) & 255;
        }
        return bytes;
    }

    /** So many nops, the switch, its filler, and the numbers of four bytes. */
    private static int[] switched(int nops, int op, int... numbers) {
        int filled = (nops + 4) / 4 * 4;
        int[] code = new int[filled + 4 * numbers.length];
        Arrays.fill(code, nops, filled, 186);
        code[nops] = op;
        System.arraycopy(four(numbers), 0, code, filled, 4 * numbers.length);
        return code;
    }

    private static int[] row(int length, int... first) {
        return Arrays.copyOf(first, length);
    }

    private static void tables() {
        for (int nops = 0; nops < 5; nops++) {
            whole("table of one", switched(nops, 170, 0, 7, 7, 0));
            int[] code = switched(nops, 170, 0, -1, 1, 0, 0, 0);
            whole("table of three", code);
            for (int cut = nops + 1; cut < code.length; cut++) {
                broken("table, cut", nops, Arrays.copyOf(code, cut));
            }
            int[] longer = Arrays.copyOf(code, code.length + 1);
            longer[code.length] = 11;
            broken("behind the table", code.length, longer);
        }
        whole("table of 201", switched(0, 170, row(204, 0, 100, 300)));
        broken("table of 202", 0, switched(0, 170, row(205, 0, 100, 301)));
        broken("table of none", 0, switched(0, 170, row(10, 0, 1, 0)));
        broken("a table round the numbers", 0, switched(0, 170, row(10, 0, Integer.MAX_VALUE, Integer.MIN_VALUE)));
        broken("a very large table", 0, switched(0, 170, row(10, 0, Integer.MIN_VALUE, Integer.MAX_VALUE)));
        whole("the least numbers", switched(0, 170, row(204, 0, Integer.MIN_VALUE, Integer.MIN_VALUE + 200)));
        whole("the largest numbers", switched(0, 170, row(204, 0, Integer.MAX_VALUE - 200, Integer.MAX_VALUE)));
    }

    private static void lookups() {
        for (int nops = 0; nops < 5; nops++) {
            whole("lookup of none", switched(nops, 171, 0, 0));
            int[] code = switched(nops, 171, 0, 2, -5, 0, 9, 0);
            whole("lookup of two", code);
            for (int cut = nops + 1; cut < code.length; cut++) {
                broken("lookup, cut", nops, Arrays.copyOf(code, cut));
            }
        }
        broken("lookup of -1", 0, switched(0, 171, 0, -1));
        broken("equal numbers", 0, switched(0, 171, 0, 2, 5, 0, 5, 0));
        broken("falling numbers", 0, switched(0, 171, 0, 3, 5, 0, 9, 0, 8, 0));
        whole("least and largest", switched(0, 171, 0, 2, Integer.MIN_VALUE, 0, Integer.MAX_VALUE, 0));
        broken("largest and least", 0, switched(0, 171, 0, 2, Integer.MAX_VALUE, 0, Integer.MIN_VALUE, 0));
        for (int pairs : new int[] {148, 149, 200, 201}) {
            int[] numbers = new int[2 + 2 * pairs];
            numbers[1] = pairs;
            for (int pair = 0; pair < pairs; pair++) {
                numbers[2 + 2 * pair] = pair;
            }
            int[] code = switched(0, 171, numbers);
            if (code.length > 1200) {
                // The code's bounds let no more than 148 pairs stand in it.
                broken("lookup of " + pairs, 0, Arrays.copyOf(code, 1200));
            } else {
                whole("lookup of " + pairs, code);
            }
        }
    }

    private static void methodsInTheirOrder() {
        ClassMaker maker = new ClassMaker();
        maker.addMethod("m", "()V", new Body(0, 0).put(167, 0, 9, 177));
        maker.addMethod("n", "()V", new Body(0, 0).put(177, 186));
        byte[] bytes = maker.make();
        Due.breaks("15 of the second before 16 of the first", 15, maker.codeAt(1) + 1, bytes);
        ClassMaker both = new ClassMaker();
        both.addMethod("m", "()V", new Body(0, 0).put(177, 11));
        both.addMethod("n", "()V", new Body(0, 0).put(12, 186));
        bytes = both.make();
        Due.breaks("the first of two", 15, both.codeAt(0) + 1, bytes);
    }

    /** The body breaks rule 16 at this byte of its code. */
    private static void points(String what, int place, ClassMaker maker) {
        byte[] bytes = maker.make();
        Due.breaks(what, 16, maker.codeAt(0) + place, bytes);
    }

    private static void jumpsGoToInstructions() {
        for (int op = 153; op <= 199; op++) {
            if (op > 167 && op < 198) {
                continue;
            }
            for (int target = -5; target <= 12; target++) {
                // 0 nop, 1 push of two bytes, 3 the jump, 6 push of two bytes, 8 return
                int[] code = {0, 16, 1, op, 0, 0, 16, 1, 177};
                code[4] = target - 3 >> 8 & 255;
                code[5] = target - 3 & 255;
                boolean right = target == 0 || target == 1 || target == 3 || target == 6 || target == 8;
                ClassMaker maker = raw(code);
                if (right) {
                    notRule16("jump to " + target, maker);
                } else {
                    points("jump to " + target, 3, maker);
                }
            }
        }
        farJumps();
        nearJumpsHaveTwoBytes();
        switchesGoToInstructions();
        ClassMaker other = new ClassMaker();
        other.addMethod("m", "()V", new Body(0, 0).put(177));
        other.addMethod("n", "()V", new Body(0, 0).put(167, 0, 0, 177));
        byte[] bytes = other.make();
        int back = other.codeAt(0) - other.codeAt(1);
        bytes[other.codeAt(1) + 1] = (byte) (back >> 8);
        bytes[other.codeAt(1) + 2] = (byte) back;
        Due.breaks("a jump into the other method", 16, other.codeAt(1), bytes);
    }

    private static void notRule16(String what, ClassMaker maker) {
        CodeMachine x = new CodeMachine();
        Due.feed(x, maker.make());
        int fault = x.load();
        Due.is(what + ": load()", true, fault == 0 || fault == 100);
    }

    /** Offsets of two bytes, with sign: to the first and the last instruction of a code of 1200 bytes, and one beyond. */
    private static void nearJumpsHaveTwoBytes() {
        for (int op : new int[] {153, 159, 165, 167, 198, 200}) {
            for (int at : new int[] {0, 600, 1194}) {
                for (int target : new int[] {-1, 0, 1199, 1200, at - 32768, at + 32767, at + 65536, at - 65536}) {
                    int[] code = new int[1200];
                    int width = op == 200 ? 4 : 2;
                    code[at] = op;
                    System.arraycopy(four(target - at), 4 - width, code, at + 1, width);
                    code[1199] = 177;
                    int met = op == 200 ? target : at + (short) (target - at);
                    if (met == 0 || met == 1199 || met == at) {
                        notRule16("jump from " + at + " to " + target, raw(code));
                    } else {
                        points("jump from " + at + " to " + target, at, raw(code));
                    }
                }
            }
        }
    }

    private static void farJumps() {
        for (int offset : new int[] {-3, -2, -1, 0, 1, 4, 5, 6, 7, Integer.MAX_VALUE, Integer.MIN_VALUE, 65536, -65536, 1 << 24}) {
            int[] code = {16, 1, 0, 200, 0, 0, 0, 0, 177};
            System.arraycopy(four(offset), 0, code, 4, 4);
            boolean right = offset == -3 || offset == -1 || offset == 0 || offset == 5;
            if (right) {
                notRule16("far jump by " + offset, raw(code));
            } else {
                points("far jump by " + offset, 3, raw(code));
            }
        }
    }

    private static void switchesGoToInstructions() {
        int[] table = {0, 3, 4, 20, 20};
        int[] lookup = {0, 2, 7, 20, 9, 20};
        for (int place : new int[] {0, 3, 4}) {
            targets(170, table, place);
        }
        for (int place : new int[] {0, 3, 5}) {
            targets(171, lookup, place);
        }
    }

    private static void targets(int op, int[] numbers, int place) {
        int length = 4 + 4 * numbers.length;
        for (int target : new int[] {-1, 0, 1, 2, 3, 4, length - 1, length, length + 1, length + 2, length + 3, 1000, Integer.MAX_VALUE}) {
            int[] changed = numbers.clone();
            for (int i = 0; i < numbers.length; i++) {
                if (i == 0 || i >= 3 && (op == 170 || i % 2 == 1)) {
                    changed[i] = length - 2;
                }
            }
            changed[place] = target - 2;
            // 0 push of two bytes, 2 the switch, behind it a push of two bytes and a return
            int[] code = switched(2, op, changed);
            code[0] = 16;
            code[1] = 1;
            code = Arrays.copyOf(code, length + 3);
            code[length] = 16;
            code[length + 2] = 177;
            boolean right = target == 0 || target == 2 || target == length || target == length + 2;
            if (right) {
                notRule16("switch to " + target, raw(code));
            } else {
                points("switch " + op + " to " + target, 2, raw(code));
            }
        }
    }

    private static void localsAreBelowMostLocals() {
        for (int most = 0; most <= 24; most++) {
            for (int local : new int[] {0, 1, 2, 3, 4, 22, 23, 24, 200, 255}) {
                for (int op : new int[] {21, 22, 25, 54, 55, 58, 132}) {
                    int last = op == 22 || op == 55 ? local + 1 : local;
                    local(most, last < most, op, local, 0);
                    local(most, last < most, 196, op, 0, local, 0, 0);
                    local(most, false, 196, op, 1, local, 0, 0);
                    if (local < 4 && op != 132) {
                        int kind = op >= 54 ? op - 54 : op - 21;
                        local(most, last < most, (op >= 54 ? 59 : 26) + 4 * kind + local);
                    }
                }
                local(most, false, 196, 22, 255, 255);
            }
        }
    }

    private static void local(int most, boolean right, int... code) {
        int length = code[0] == 196 ? code[1] == 132 ? 6 : 4 : code[0] == 132 ? 3 : Math.min(2, code.length);
        int[] all = Arrays.copyOf(code, length + 1);
        all[length] = 177;
        ClassMaker maker = ClassMaker.of("()V", new Body(2, most).put(all));
        if (right) {
            notRule16("local of " + most, maker);
        } else {
            points("local of " + most, 0, maker);
        }
    }

    private static void constantsTellTheirSort() {
        ClassMaker maker = new ClassMaker();
        int number = maker.number(70000);
        int large = maker.number(1L << 40);
        int field = maker.field("f", "I");
        int[] wrong = {0, maker.name("f"), maker.own, field, large + 1, 255};
        for (int op = 18; op <= 20; op++) {
            constant(op, number, op != 20);
            constant(op, large, op == 20);
            for (int other : wrong) {
                constant(op, other, false);
            }
        }
        constant(19, 60000, false);
        constant(20, 60000, false);
    }

    private static void constant(int op, int number, boolean right) {
        ClassMaker maker = new ClassMaker();
        maker.number(70000);
        maker.number(1L << 40);
        maker.field("f", "I");
        int[] code = op == 18 ? new int[] {0, op, number, 177} : new int[] {0, op, number >> 8, number & 255, 177};
        maker.addMethod("m", "()V", new Body(2, 0).put(code));
        if (right) {
            Due.loaded("constant", maker);
        } else {
            points("constant " + op + " of " + number, 1, maker);
        }
    }

    private static ClassMaker members(int op, int number) {
        ClassMaker maker = new ClassMaker();
        maker.field("f", "I");
        maker.addField("f", "I");
        maker.addMethod("m", "()I", new Body(2, 0).two(op, number).put(3, 172));
        maker.addMethod("n", "()V", new Body(0, 0).put(177));
        return maker;
    }

    private static int add(ClassMaker maker, int tag, String owner, String name, String type) {
        return maker.reference(tag, maker.type(owner), maker.pair(maker.name(name), maker.name(type)));
    }

    private static void member(String what, boolean right, int op, int tag, String owner, String name, String type) {
        int number = add(members(op, 0), tag, owner, name, type);
        ClassMaker maker = members(op, number);
        Due.is("the same number", number, add(maker, tag, owner, name, type));
        if (right) {
            Due.loaded(what, maker);
        } else {
            points(what + " by " + op, 0, maker);
        }
    }

    private static void membersAreOfThisClass() {
        member("its method", true, 184, 10, "Own", "n", "()V");
        member("its field", true, 178, 9, "Own", "f", "I");
        for (int op : new int[] {178, 179}) {
            member("another class", false, op, 9, "Above", "f", "I");
            member("another name", false, op, 9, "Own", "g", "I");
            member("another type", false, op, 9, "Own", "f", "J");
            member("a method", false, op, 10, "Own", "n", "()V");
            member("a method's name", false, op, 9, "Own", "n", "I");
        }
        member("another class", false, 184, 10, "Above", "n", "()V");
        member("another name", false, 184, 10, "Own", "f", "()V");
        member("another type", false, 184, 10, "Own", "n", "()I");
        member("another type", false, 184, 10, "Own", "n", "(I)V");
        member("a field", false, 184, 9, "Own", "f", "I");
        int beyond = members(178, 0).entries.size() + 1;
        for (int number : new int[] {0, beyond, 499, 65535}) {
            for (int op : new int[] {178, 179, 184}) {
                points("no member", 0, members(op, number));
            }
        }
        everyOtherEntryIsNoMember();
        ClassMaker again = members(178, 0);
        int name = again.rawName("Own");
        int owner = again.entry(7, name >> 8, name);
        int field = again.rawName("f");
        int type = again.rawName("I");
        int number = again.reference(9, owner, again.pair(field, type));
        again.methods.clear();
        again.addMethod("m", "()I", new Body(1, 0).two(178, number).put(172));
        Due.loaded("the same names in other entries", again);
    }

    /** Only a FIELD is good for 178 and 179, only a METHOD for 184, and each is then. */
    private static void everyOtherEntryIsNoMember() {
        for (int op : new int[] {178, 179, 184}) {
            ClassMaker sorts = sorts(op, 0);
            for (int number = 1; number <= sorts.entries.size(); number++) {
                ClassMaker maker = sorts(op, number);
                byte[] entry = maker.entries.get(number - 1);
                boolean right = entry != null && entry[0] == (op == 184 ? 10 : 9);
                if (right) {
                    notRule16("member by " + op, maker);
                } else {
                    points("entry " + number + " is no member for " + op, 0, maker);
                }
            }
        }
    }

    private static ClassMaker sorts(int op, int number) {
        ClassMaker maker = new ClassMaker();
        maker.number(70000);
        maker.number(1L << 40);
        maker.field("f", "I");
        maker.method("n", "()V");
        maker.addField("f", "I");
        maker.addMethod("m", "()I", new Body(2, 0).two(op, number).put(3, 172));
        maker.addMethod("n", "()V", new Body(0, 0).put(177));
        return maker;
    }

    /** 0 push of two bytes, 2 pop, 3 return, 4 pop, 5 return; a catch of from, to, at, type. */
    private static ClassMaker caught(int from, int to, int at, int type) {
        ClassMaker maker = new ClassMaker();
        for (String error : new String[] {"DivideError", "NullError", "IndexError", "SizeError", "Error"}) {
            maker.type(error);
        }
        maker.addMethod("m", "()V", new Body(1, 0).put(16, 1, 87, 177, 87, 177));
        byte[] content = maker.methods.get(0).attributes.get(0).bytes();
        byte[] longer = Arrays.copyOf(content, content.length + 16);
        int[] parts = {0, 1, 4, 0, from, to, at, type};
        longer[15] = 2;
        for (int i = 0; i < parts.length; i++) {
            longer[16 + 2 * i] = (byte) (parts[i] >> 8);
            longer[17 + 2 * i] = (byte) parts[i];
        }
        longer[19] = 3;
        maker.methods.get(0).attributes.set(0, new ClassMaker.Attribute(maker.name("Code"), longer));
        return maker;
    }

    private static void catchOf(String what, boolean right, int from, int to, int at, int type) {
        ClassMaker maker = caught(from, to, at, type);
        if (right) {
            Due.loaded(what, maker);
        } else {
            points(what, 16, maker);
        }
    }

    private static void catchesPoint() {
        ClassMaker names = caught(0, 3, 4, 0);
        for (int from = 0; from <= 8; from++) {
            for (int to = 0; to <= 8; to++) {
                boolean right = isStart(from) && (isStart(to) || to == 6) && from < to;
                catchOf("catch from " + from + " to " + to, right, from, to, 4, 0);
            }
        }
        for (int at : new int[] {1, 6, 7, 65535}) {
            catchOf("catch at " + at, false, 0, 3, at, 0);
        }
        catchOf("catch to far", false, 0, 65535, 4, 0);
        catchOf("catch from far", false, 65535, 6, 4, 0);
        for (String error : new String[] {"DivideError", "NullError", "IndexError", "SizeError"}) {
            catchOf("catch of " + error, true, 0, 3, 4, names.type(error));
        }
        catchOf("catch of no error", false, 0, 3, 4, names.type("Error"));
        catchOf("catch of a class", false, 0, 3, 4, names.own);
        catchOf("catch of a name", false, 0, 3, 4, names.name("DivideError"));
        catchOf("catch of nothing", false, 0, 3, 4, 499);
        catchOf("catch of nothing", false, 0, 3, 4, 65535);
        catchOf("catch of n", false, 0, 3, 4, names.entries.size() + 1);
        for (String error : new String[] {"DivideErro", "DivideErrors", "divideError", "NullErroR", "Size", "0"}) {
            ClassMaker other = caught(0, 3, 4, 0);
            int number = other.type(error);
            byte[] bytes = other.make();
            int type = other.codeAt(0) + 6 + 2 + 8 + 6;
            bytes[type] = (byte) (number >> 8);
            bytes[type + 1] = (byte) number;
            Due.breaks("catch of " + error, 16, other.codeAt(0) + 16, bytes);
        }
        // At the first instruction is fine for rule 16; its heights of 0 and 1 are a fault of the checking.
        ClassMaker first = caught(0, 3, 0, 0);
        Due.breaks("catch at 0", 100, 0, first.make());
        catchesOfTheFirstEntry();
    }

    private static void catchesOfTheFirstEntry() {
        for (String error : new String[] {"SizeError", "Size"}) {
            ClassMaker maker = new ClassMaker();
            maker.entries.set(0, new byte[] {7, 0, (byte) (maker.entries.size() + 1)});
            maker.entries.set(1, new byte[] {3, 0, 0, 0, 0});
            maker.rawName(error);
            maker.own = 1;
            maker.above = 1;
            maker.addMethod("m", "()V", new Body(1, 0).label("a").put(177).label("b").put(87, 177).caught("a", "b", "b", 1));
            if (error.equals("SizeError")) {
                Due.loaded("the CLASS is the first entry", maker);
            } else {
                points("the CLASS is the first entry, and no error", 5, maker);
            }
        }
    }

    private static boolean isStart(int place) {
        return place == 0 || place >= 2 && place <= 5;
    }

    private static void pointsInTheirOrder() {
        ClassMaker maker = new ClassMaker();
        maker.addMethod("m", "()V", new Body(1, 0).label("a").put(16, 1, 87, 167, 0, 1).label("b").caught("b", "a", "a", 0));
        points("instructions before catches", 3, maker);
        ClassMaker second = new ClassMaker();
        second.addMethod("m", "()V", new Body(1, 0).label("a").put(177).label("b").caught("b", "a", "a", 0));
        second.addMethod("n", "()V", new Body(1, 0).put(21, 0, 177));
        points("catches before the next method", 3, second);
        ClassMaker third = new ClassMaker();
        third.addMethod("m", "()V", new Body(1, 0).put(87, 177));
        third.addMethod("n", "()V", new Body(1, 0).put(21, 0, 177));
        byte[] bytes = third.make();
        Due.breaks("rule 16 of the second before the checking of the first", 16, third.codeAt(1), bytes);
    }
}
