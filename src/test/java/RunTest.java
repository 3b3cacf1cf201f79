/** Promises 9 to 13: arguments, and what instructions do when they run. */
public final class RunTest {
    private static final int[] INTS = {0, 1, -1, 2, -2, 7, 31, 32, 33, 63, 64, 65, 255, 256, -129, 40000, -40000,
        Integer.MAX_VALUE, Integer.MIN_VALUE, Integer.MIN_VALUE + 1, 0x12345678, 0x89ABCDEF};
    private static final long[] LONGS = {0, 1, -1, 2, -2, 31, 32, 63, 64, 65, 255, 1L << 31, 1L << 32, -1L << 31,
        Long.MAX_VALUE, Long.MIN_VALUE, Long.MIN_VALUE + 1, 0x123456789ABCDEFL, 0xFEDCBA9876543210L};

    public static void main(String[] args) {
        intsAreCalculated();
        longsAreCalculated();
        intsAndLongsAreChanged();
        constantsArePushed();
        localsAreStoredAndLoaded();
        placesAreShuffled();
        jumpsAreTaken();
        referencesAreCompared();
        switchesAreTaken();
        methodsAreCalled();
        errorsEndRuns();
        errorsAreCaught();
        catchesAreSoughtInOrder();
        fuelEndsRuns();
        sixtyMethodsMayRun();
        errorsOfTheSixtiethMethod();
        errorsPassThroughMethods();
        jumpsGoFar();
        theLastElementIsOne();
        valuesWrap();
        argumentsAreUsedUp();
        refusedRunsChangeNothing();
        Due.close();
    }

    private static CodeMachine of(String what, String type, Body body) {
        return Due.loaded(what, ClassMaker.of(type, body));
    }

    private static int ofInts(int op, int x, int y) {
        switch (op) {
            case 96:
                return x + y;
            case 100:
                return x - y;
            case 104:
                return x * y;
            case 108:
                return x / y;
            case 112:
                return x % y;
            case 120:
                return x << y;
            case 122:
                return x >> y;
            case 124:
                return x >>> y;
            case 126:
                return x & y;
            case 128:
                return x | y;
            default:
                return x ^ y;
        }
    }

    private static final int[] TWO_INTS = {96, 100, 104, 108, 112, 120, 122, 124, 126, 128, 130};

    private static void intsAreCalculated() {
        for (int op : TWO_INTS) {
            String what = "ints by " + op;
            byte[] bytes = ClassMaker.of("(II)I", new Body(2, 2).put(26, 27, op, 172)).make();
            for (int x : INTS) {
                CodeMachine machine = Due.loaded(what, bytes);
                for (int y : INTS) {
                    if (y == 0 && (op == 108 || op == 112)) {
                        Due.fails(what + " " + x + " " + y, 0, machine, x, y);
                    } else {
                        Due.gives(what + " " + x + " " + y, ofInts(op, x, y), machine, x, y);
                    }
                }
            }
        }
        CodeMachine machine = of("neg", "(I)I", new Body(1, 1).put(26, 116, 172));
        for (int x : INTS) {
            Due.gives("neg " + x, -x, machine, x);
        }
    }

    private static long ofLongs(int op, long x, long y) {
        switch (op) {
            case 97:
                return x + y;
            case 101:
                return x - y;
            case 105:
                return x * y;
            case 109:
                return x / y;
            case 113:
                return x % y;
            case 127:
                return x & y;
            case 129:
                return x | y;
            default:
                return x ^ y;
        }
    }

    private static void longsAreCalculated() {
        for (int op : new int[] {97, 101, 105, 109, 113, 127, 129, 131}) {
            String what = "longs by " + op;
            byte[] bytes = ClassMaker.of("(JJ)J", new Body(4, 4).put(30, 32, op, 173)).make();
            for (long x : LONGS) {
                CodeMachine machine = Due.loaded(what, bytes);
                for (long y : LONGS) {
                    if (y == 0 && (op == 109 || op == 113)) {
                        Due.fails(what + " " + x + " " + y, 0, machine, x, y);
                    } else {
                        Due.gives(what + " " + x + " " + y, ofLongs(op, x, y), machine, x, y);
                    }
                }
            }
        }
        CodeMachine machine = of("neg", "(J)J", new Body(2, 2).put(30, 117, 173));
        for (long x : LONGS) {
            Due.gives("neg " + x, -x, machine, x);
        }
        longsAreShifted();
    }

    private static void longsAreShifted() {
        for (int op : new int[] {121, 123, 125}) {
            byte[] bytes = ClassMaker.of("(JI)J", new Body(3, 3).put(30, 28, op, 173)).make();
            for (long x : LONGS) {
                CodeMachine machine = Due.loaded("shift", bytes);
                for (int y : INTS) {
                    long want = op == 121 ? x << y : op == 123 ? x >> y : x >>> y;
                    Due.gives("shift by " + op + " " + x + " " + y, want, machine, x, y);
                }
            }
        }
    }

    private static void intsAndLongsAreChanged() {
        CodeMachine toLong = of("133", "(I)J", new Body(2, 1).put(26, 133, 173));
        CodeMachine toByte = of("145", "(I)I", new Body(1, 1).put(26, 145, 172));
        CodeMachine toChar = of("146", "(I)I", new Body(1, 1).put(26, 146, 172));
        CodeMachine toShort = of("147", "(I)I", new Body(1, 1).put(26, 147, 172));
        for (int x : INTS) {
            Due.gives("int to long", x, toLong, x);
            Due.gives("int to byte", (byte) x, toByte, x);
            Due.gives("int to char", (char) x, toChar, x);
            Due.gives("int to short", (short) x, toShort, x);
        }
        CodeMachine toInt = of("136", "(J)I", new Body(2, 2).put(30, 136, 172));
        byte[] compare = ClassMaker.of("(JJ)I", new Body(4, 4).put(30, 32, 148, 172)).make();
        for (long x : LONGS) {
            Due.gives("long to int", (int) x, toInt, x);
            CodeMachine machine = Due.loaded("148", compare);
            for (long y : LONGS) {
                Due.gives("compare " + x + " " + y, Long.compare(x, y), machine, x, y);
            }
        }
        for (int growth : new int[] {0, 1, -1, 127, -128}) {
            CodeMachine grown = of("132", "(I)I", new Body(1, 1).put(132, 0, growth, 26, 172));
            CodeMachine wide = of("wide 132", "(I)I", new Body(1, 1).put(196, 132, 0, 0, growth * 256 >> 8, growth * 256, 26, 172));
            for (int x : INTS) {
                Due.gives("grow " + x + " " + growth, x + growth, grown, x);
                Due.gives("grow far " + x + " " + growth * 256, x + (short) (growth * 256), wide, x);
            }
        }
    }

    private static void constantsArePushed() {
        for (int op = 2; op <= 8; op++) {
            Due.gives("push", op - 3, of("push", "()I", new Body(1, 0).put(op, 172)));
        }
        Due.gives("push", 0, of("push", "()J", new Body(2, 0).put(9, 173)));
        Due.gives("push", 1, of("push", "()J", new Body(2, 0).put(10, 173)));
        for (int v : new int[] {0, 1, -1, 127, -128, 5}) {
            Due.gives("byte", v, of("byte", "()I", new Body(1, 0).put(16, v, 172)));
        }
        for (int v : new int[] {0, 1, -1, 128, 255, 256, 32767, -32768, 0x1234}) {
            Due.gives("short", v, of("short", "()I", new Body(1, 0).two(17, v).put(172)));
        }
        for (int v : INTS) {
            ClassMaker maker = new ClassMaker();
            maker.addMethod("m", "()I", new Body(1, 0).op(18, maker.number(v)).put(172));
            Due.gives("pool", v, Due.loaded("pool", maker));
            ClassMaker far = new ClassMaker();
            for (int i = 0; i < 300; i++) {
                far.entry(3, 0, 0, 0, 9);
            }
            far.addMethod("m", "()I", new Body(1, 0).two(19, far.number(v)).put(172));
            Due.gives("far pool", v, Due.loaded("far pool", far));
        }
        for (long v : LONGS) {
            ClassMaker maker = new ClassMaker();
            maker.addMethod("m", "()J", new Body(2, 0).two(20, maker.number(v)).put(173));
            Due.gives("long pool", v, Due.loaded("long pool", maker));
        }
        Due.gives("null", 0, of("null", "()[I", new Body(1, 0).put(1, 176)));
        numbersHaveNoSign();
        numbersHaveTwoBytes();
    }

    /** Each entry of this pool is an int that tells its own number, but for the first few and the last few. */
    private static ClassMaker numbered() {
        ClassMaker maker = new ClassMaker();
        while (maker.entries.size() < 400) {
            int number = maker.entries.size() + 1;
            maker.entry(3, 0, 0, number >> 8, number);
        }
        return maker;
    }

    /** 18 has one byte without sign, so that it reaches the entries to 255. */
    private static void numbersHaveNoSign() {
        for (int number : new int[] {5, 127, 128, 129, 200, 254, 255, 256, 257, 399, 400}) {
            if (number < 256) {
                ClassMaker maker = numbered();
                maker.addMethod("m", "()I", new Body(1, 0).op(18, number).put(172));
                Due.gives("18 of " + number, number, Due.loaded("18", maker));
            }
            ClassMaker far = numbered();
            far.addMethod("m", "()I", new Body(1, 0).two(19, number).put(172));
            Due.gives("19 of " + number, number, Due.loaded("19", far));
        }
    }

    /** Longs, FIELDs, METHODs and the CLASSes of catches behind entry 255. */
    private static void numbersHaveTwoBytes() {
        ClassMaker maker = numbered();
        maker.addField("j", "J");
        int field = maker.field("j", "J");
        int method = maker.method("n", "(J)V");
        int divide = maker.type("DivideError");
        int nulls = maker.type("NullError");
        Body body = new Body(4, 0).two(20, maker.number(1L << 50)).two(184, method).two(178, field).two(20, maker.number(3L)).op(97)
            .label("f").op(9).op(109).label("t").op(173).label("g").op(87).op(10).op(173).label("h").op(87).two(178, field).op(173);
        maker.addMethod("m", "()J", body.caught("f", "t", "g", nulls).caught("f", "t", "h", divide));
        maker.addMethod("n", "(J)V", new Body(2, 2).op(30).two(179, field).op(177));
        CodeMachine x = Due.loaded("far numbers", maker);
        Due.gives("far numbers", 1L << 50, x);
        Due.is("field(0)", 1L << 50, x.field(0));
    }

    private static void localsAreStoredAndLoaded() {
        for (int local = 0; local < 22; local++) {
            for (int from = 0; from < 3; from++) {
                for (int to = 0; to < 3; to++) {
                    if (local < 4 || from < 2 && to < 2) {
                        throughLocals(local, from, to);
                    }
                }
            }
        }
        // a local does not touch its neighbours
        CodeMachine x = of("three", "(I[IJI)J", new Body(4, 8).put(26, 54, 5, 32, 55, 6, 43, 58, 0, 22, 6, 21, 5, 133, 97, 173));
        Due.gives("neighbours", 1000000000007L + 5, x, 5, 0, 1000000000007L, 99);
    }

    /** Stores and loads by the one-byte (2), two-byte (0) and wide (1) forms. */
    private static void throughLocals(int local, int from, int to) {
        String what = "local " + local;
        Body ints = new Body(1, 24).op(16, 55);
        Body longs = new Body(2, 24).two(17, 1000).op(133);
        Body arrays = new Body(1, 24).op(16, 55).op(188, 10);
        form(ints, from, 54, 59, local);
        form(ints, to, 21, 26, local);
        form(longs, from, 55, 63, local);
        form(longs, to, 22, 30, local);
        form(arrays, from, 58, 75, local);
        form(arrays, to, 25, 42, local);
        Due.gives(what, 55, of(what, "()I", ints.op(172)));
        Due.gives(what, 1000, of(what, "()J", longs.op(173)));
        Due.gives(what, 1, of(what, "()[I", arrays.op(176)));
    }

    private static void form(Body body, int form, int op, int shortOp, int local) {
        switch (form) {
            case 0:
                body.op(op, local);
                break;
            case 1:
                body.op(196, op, 0, local);
                break;
            default:
                body.op(shortOp + local);
        }
    }

    /** The digits 1 2 3 4 lie on the stack, the op shuffles them, and what lies there then is read from the top. */
    private static void placesAreShuffled() {
        digits("pop", 87, 1, 2, 3);
        digits("pop two", 88, 1, 2);
        digits("dup", 89, 1, 2, 3, 4, 4);
        digits("dup below", 90, 1, 2, 4, 3, 4);
        digits("dup two", 92, 1, 2, 3, 4, 3, 4);
        digits("swap", 95, 1, 2, 4, 3);
        Body longs = new Body(8, 4).put(30, 32, 92, 105, 97, 173);
        Due.gives("dup two of a long", 3 + 7 * 7, of("dup two", "(JJ)J", longs), 3, 7);
        Due.gives("pop two of a long", 3, of("pop two", "(JJ)J", new Body(8, 4).put(30, 32, 88, 173)), 3, 7);
        Due.gives("dup of ints", 9, of("dup", "()I", new Body(4, 1).put(16, 9, 188, 10, 89, 95, 87, 190, 172)));
        Due.gives("dup two of int and null", 5, of("dup", "()I", new Body(4, 1).put(8, 1, 92, 87, 95, 87, 95, 87, 172)));
    }

    private static void digits(String what, int op, int... after) {
        Body body = new Body(12, 1).put(4, 5, 6, 7, op, 3, 59);
        long want = 0;
        for (int n = after.length - 1; n >= 0; n--) {
            // Local 0 becomes ten times itself and the digit.
            body.put(26, 16, 10, 104, 96, 59);
            want = 10 * want + after[n];
        }
        Due.gives(what, want, of(what, "()I", body.put(26, 172)));
    }

    private static boolean holds(int relation, int x, int y) {
        switch (relation) {
            case 0:
                return x == y;
            case 1:
                return x != y;
            case 2:
                return x < y;
            case 3:
                return x >= y;
            case 4:
                return x > y;
            default:
                return x <= y;
        }
    }

    private static void jumpsAreTaken() {
        for (int relation = 0; relation < 6; relation++) {
            CodeMachine zero = of("if", "(I)I",
                new Body(1, 1).op(26).jump(153 + relation, "a").op(3).op(172).label("a").op(4).op(172));
            Body two = new Body(2, 2).op(26).op(27).jump(159 + relation, "a").op(3).op(172).label("a").op(4).op(172);
            byte[] bytes = ClassMaker.of("(II)I", two).make();
            for (int x : INTS) {
                Due.gives("if " + relation + " " + x, holds(relation, x, 0) ? 1 : 0, zero, x);
                CodeMachine machine = Due.loaded("if two", bytes);
                for (int y : INTS) {
                    Due.gives("if " + relation + " " + x + " " + y, holds(relation, x, y) ? 1 : 0, machine, x, y);
                }
            }
        }
        Body back = new Body(2, 2).op(3).op(60).label("a").op(26).jump(153, "b").op(27).op(26).op(96).op(60)
            .op(132, 0, 255).jump(200, "a").label("b").op(27).op(172);
        for (int op : new int[] {167, 200}) {
            Body over = new Body(3, 2).op(26).op(27).op(8).jump(op, "a").label("b").op(100).op(100).op(172).label("a").jump(op, "b");
            Due.gives("goto with a stack", 1 - (9 - 5), of("goto", "(II)I", over), 1, 9);
            Due.gives("goto with a stack", 9 - (1 - 5), of("goto", "(II)I", over), 9, 1);
        }
        Due.gives("a loop", 5050, of("loop", "(I)I", back), 100);
    }

    private static void referencesAreCompared() {
        for (int op = 165; op <= 166; op++) {
            Body body = new Body(2, 2).op(42).op(43).jump(op, "a").op(3).op(172).label("a").op(4).op(172);
            ClassMaker maker = ClassMaker.of("([I[I)I", body);
            maker.addMethod("make", "()[I", new Body(1, 0).op(3).op(188, 10).op(176));
            CodeMachine x = Due.loaded("same", maker);
            x.run(1, 10);
            x.run(1, 10);
            for (int left = 0; left < 3; left++) {
                for (int right = 0; right < 3; right++) {
                    Due.gives("same", left == right == (op == 165) ? 1 : 0, x, left, right);
                }
            }
        }
        for (int op = 198; op <= 199; op++) {
            Body body = new Body(2, 2).op(42).jump(op, "a").op(3).op(172).label("a").op(4).op(172);
            ClassMaker maker = ClassMaker.of("([I)I", body);
            maker.addMethod("make", "()[I", new Body(1, 0).op(3).op(188, 10).op(176));
            CodeMachine x = Due.loaded("null", maker);
            x.run(1, 10);
            Due.gives("null", op == 198 ? 1 : 0, x, 0);
            Due.gives("null", op == 198 ? 0 : 1, x, 1);
        }
        // A caught error is not null, and the same as itself.
        Body error = new Body(2, 2).label("f").op(4).op(3).op(108).label("t").op(172).label("h").op(89).jump(165, "a")
            .op(3).op(172).label("a").op(5).op(172).caught("f", "t", "h", 0);
        Due.gives("the same error", 2, of("the same error", "()I", error));
    }

    private static void switchesAreTaken() {
        for (int nops = 0; nops < 4; nops++) {
            Body table = new Body(1, 1).put(new int[nops]).op(26).table(-1, "d", "a", "b", "c");
            Body lookup = new Body(1, 1).put(new int[nops]).op(26)
                .lookup("d", new int[] {Integer.MIN_VALUE, -1, 0, 70000}, "c", "a", "b", "c");
            for (Body body : new Body[] {table, lookup}) {
                body.label("a").op(4).op(172).label("b").op(5).op(172).label("c").op(6).op(172).label("d").op(7).op(172);
            }
            CodeMachine tables = of("table", "(I)I", table);
            CodeMachine lookups = of("lookup", "(I)I", lookup);
            for (int v : INTS) {
                Due.gives("table " + v, v == -1 ? 1 : v == 0 ? 2 : v == 1 ? 3 : 4, tables, v);
                boolean third = v == Integer.MIN_VALUE || v == 70000;
                Due.gives("lookup " + v, v == -1 ? 1 : v == 0 ? 2 : third ? 3 : 4, lookups, v);
            }
            Due.gives("lookup 70000", 3, lookups, 70000);
        }
        Body none = new Body(1, 1).op(26).lookup("d", new int[0]).label("d").op(8).op(172);
        Due.gives("lookup of none", 5, of("lookup", "(I)I", none), 3);
        // What stands behind a lookup looks like one more pair, and is none.
        Body behind = new Body(1, 1).op(26).lookup("d", new int[] {5}, "d").label("d").put(0, 0, 0, 0, 0, 0, 0, 0).op(8).op(172);
        Due.gives("no pair", 5, of("lookup", "(I)I", behind), 0);
        Body edge = new Body(1, 1).op(26).table(Integer.MAX_VALUE - 1, "d", "a", "b")
            .label("a").op(4).op(172).label("b").op(5).op(172).label("d").op(6).op(172);
        CodeMachine edges = of("table at the edge", "(I)I", edge);
        Due.gives("table", 1, edges, Integer.MAX_VALUE - 1);
        Due.gives("table", 2, edges, Integer.MAX_VALUE);
        Due.gives("table", 3, edges, Integer.MIN_VALUE);
        Due.gives("table", 3, edges, -1);
    }

    private static void methodsAreCalled() {
        ClassMaker maker = new ClassMaker();
        int sum = maker.method("sum", "(IJ[II)J");
        maker.addMethod("m", "()J", new Body(12, 0).op(10).op(16, 50).two(20, maker.number(7000000000L)).op(1).op(8)
            .two(184, sum).op(97).op(173));
        maker.addMethod("sum", "(IJ[II)J", new Body(4, 5).op(31).op(26).op(133).op(101).op(21, 4).op(133).op(105).op(173));
        CodeMachine x = Due.loaded("call", maker);
        Due.gives("call", 1 + (7000000000L - 50) * 5, x);
        Due.is("steps()", 16, x.steps());
        ClassMaker recursive = new ClassMaker();
        int self = recursive.method("fib", "(I)I");
        recursive.addMethod("fib", "(I)I", new Body(3, 1).op(26).op(5).jump(161, "a").op(26).op(4).op(100).two(184, self)
            .op(26).op(5).op(100).two(184, self).op(96).op(172).label("a").op(26).op(172));
        Due.gives("fib", 610, Due.loaded("fib", recursive), 15);
        ClassMaker nothing = new ClassMaker();
        int none = nothing.method("n", "()V");
        nothing.addMethod("m", "()I", new Body(1, 0).op(7).two(184, none).op(172));
        nothing.addMethod("n", "()V", new Body(0, 0).op(177));
        CodeMachine y = Due.loaded("nothing", nothing);
        Due.gives("a method that gives nothing", 4, y);
        Due.is("run()", 0, y.run(1, 1));
        Due.is("result()", 0, y.result());
        Due.is("steps()", 1, y.steps());
    }

    private static void errorsEndRuns() {
        Due.fails("div", 0, of("div", "()I", new Body(2, 0).put(4, 3, 108, 172)));
        Due.fails("rem", 0, of("rem", "()J", new Body(4, 0).put(10, 9, 113, 173)));
        Due.fails("length", 1, of("length", "()I", new Body(2, 0).put(1, 190, 172)));
        Due.fails("element", 1, of("element", "()I", new Body(2, 0).put(1, 2, 46, 172)));
        Due.fails("put", 1, of("put", "()V", new Body(3, 0).put(1, 2, 3, 79, 177)));
        Due.fails("throw", 1, of("throw", "()V", new Body(1, 0).put(1, 191)));
        for (int index : new int[] {-1, 3, 4, Integer.MAX_VALUE, Integer.MIN_VALUE}) {
            Due.fails("index", 2, of("index", "(I)I", new Body(2, 1).put(6, 188, 10, 26, 46, 172)), index);
            Due.fails("index", 2, of("index", "(I)V", new Body(3, 1).put(6, 188, 10, 26, 3, 79, 177)), index);
        }
        Due.fails("size", 3, of("size", "()[I", new Body(1, 0).put(2, 188, 10, 176)));
        Due.fails("size", 3, of("size", "(I)[I", new Body(1, 1).put(26, 188, 10, 176)), Integer.MIN_VALUE);
    }

    /** v 0 .. 3 makes the error of that number, 4 none. */
    private static Body maker(Body body) {
        return body.op(26).table(0, "none", "div", "null", "index", "size")
            .label("div").op(4).op(3).op(112).op(172)
            .label("null").op(1).op(190).op(172)
            .label("index").op(3).op(188, 10).op(3).op(46).op(172)
            .label("size").op(2).op(188, 10).op(190).op(172)
            .label("none").op(16, 77).op(172);
    }

    private static void errorsAreCaught() {
        String[] names = {"DivideError", "NullError", "IndexError", "SizeError", ""};
        for (int wanted = 0; wanted < names.length; wanted++) {
            ClassMaker inside = new ClassMaker();
            int type = names[wanted].isEmpty() ? 0 : inside.type(names[wanted]);
            inside.addMethod("m", "(I)I", maker(new Body(3, 1).label("f")).label("h").op(87).op(16, 9).op(172)
                .caught("f", "h", "h", type));
            ClassMaker outside = new ClassMaker();
            int outsideType = names[wanted].isEmpty() ? 0 : outside.type(names[wanted]);
            int called = outside.method("n", "(I)I");
            outside.addMethod("m", "(I)I", new Body(3, 1).op(8).label("f").op(26).two(184, called).label("t").op(96).op(172)
                .label("h").op(87).op(16, 9).op(172).caught("f", "t", "h", outsideType));
            outside.addMethod("n", "(I)I", maker(new Body(3, 1)));
            for (int made = 0; made <= 4; made++) {
                CodeMachine x = Due.loaded("inside", inside);
                CodeMachine y = Due.loaded("outside", outside);
                if (made == 4) {
                    Due.gives("none", 77, x, made);
                    Due.gives("none", 82, y, made);
                } else if (wanted == made || wanted == 4) {
                    Due.gives("caught", 9, x, made);
                    Due.gives("caught", 9, y, made);
                } else {
                    Due.fails("not caught", made, x, made);
                    Due.fails("not caught", made, y, made);
                }
            }
        }
        thrownAgain();
    }

    private static void thrownAgain() {
        ClassMaker maker = new ClassMaker();
        maker.addMethod("m", "(I)I", maker(new Body(3, 2).label("f")).label("h").op(76).op(132, 0, 1).op(43).op(191)
            .caught("f", "h", "h", 0));
        for (int made = 0; made < 4; made++) {
            Due.fails("thrown again", made, Due.loaded("again", maker), made);
        }
        // What is thrown where the catch still has it comes back to it.
        Body loop = new Body(3, 1).op(26).label("f").op(3).op(108).op(172).label("h").op(132, 0, 1).op(26).op(8).jump(162, "e")
            .op(191).label("e").op(87).op(26).op(172).label("t").caught("f", "t", "h", 0);
        Due.gives("a loop of errors", 5, of("loop of errors", "(I)I", loop), 0);
        // The stack is emptied below the error.
        Body empty = new Body(5, 0).op(3).op(4).op(5).label("f").op(6).op(3).op(108).label("t").op(172)
            .label("h").op(87).op(8).op(172).caught("f", "t", "h", 0);
        CodeMachine x = of("empty", "()I", empty);
        Due.gives("the stack is empty but for the error", 5, x);
        Due.is("height()", 1, x.height(0, 7));
        Due.is("steps()", 9, x.steps());
    }

    private static void catchesAreSoughtInOrder() {
        ClassMaker maker = new ClassMaker();
        int divide = maker.type("DivideError");
        int nulls = maker.type("NullError");
        Body body = new Body(3, 1).label("a").op(4).label("b").op(3).op(108).label("c").op(172)
            .label("one").op(87).op(4).op(172).label("two").op(87).op(5).op(172).label("three").op(87).op(6).op(172)
            .caught("a", "b", "one", 0).caught("a", "c", "one", nulls).caught("b", "c", "two", divide).caught("a", "c", "three", 0);
        maker.addMethod("m", "()I", body);
        Due.gives("the first that has it", 2, Due.loaded("catches", maker));
        // The end of a catch is not in it.
        Body end = new Body(3, 1).op(4).label("a").op(3).label("b").op(108).op(172).label("one").op(87).op(4).op(172)
            .caught("a", "b", "one", 0);
        Due.fails("behind the catch", 0, of("catches", "()I", end));
        Body begin = new Body(3, 1).op(4).op(3).label("a").op(108).label("b").op(172).label("one").op(87).op(4).op(172)
            .caught("a", "b", "one", 0);
        Due.gives("its first", 1, of("catches", "()I", begin));
    }

    private static void fuelEndsRuns() {
        CodeMachine x = of("fuel", "()I", new Body(2, 0).put(3, 4, 96, 172));
        for (int fuel = 0; fuel < 7; fuel++) {
            Due.is("run()", fuel < 4 ? 2 : 0, x.run(0, fuel));
            Due.is("steps()", Math.min(4, fuel), x.steps());
            Due.is("result()", fuel < 4 ? 0 : 1, x.result());
            Due.is("error()", -1, x.error());
        }
        CodeMachine endless = of("endless", "()V", new Body(0, 0).put(167, 0, 0));
        Due.is("run()", 2, endless.run(0, 50000));
        Due.is("steps()", 50000, endless.steps());
        Due.is("run()", -3, endless.run(0, 50001));
        Due.is("run()", -3, endless.run(0, -1));
        Due.is("run()", -3, endless.run(0, Integer.MAX_VALUE));
        Due.is("run()", -3, endless.run(0, Integer.MIN_VALUE));
        Due.is("steps()", 50000, endless.steps());
        CodeMachine div = of("div", "()I", new Body(2, 0).put(4, 3, 108, 172));
        Due.is("run()", 2, div.run(0, 2));
        Due.is("error()", -1, div.error());
        Due.is("run()", 1, div.run(0, 3));
        Due.is("steps()", 3, div.steps());
    }

    /** Method 0 calls itself with one less until it is 0. */
    private static void sixtyMethodsMayRun() {
        ClassMaker maker = new ClassMaker();
        int self = maker.method("m", "(I)I");
        maker.addMethod("m", "(I)I", new Body(2, 1).label("f").op(26).jump(153, "a").op(26).op(4).op(100).two(184, self).op(172)
            .label("a").op(16, 42).op(172).label("h").op(87).op(2).op(172).caught("f", "h", "h", 0));
        CodeMachine x = Due.loaded("deep", maker);
        Due.gives("60 methods", 42, x, 59);
        Due.is("steps()", 59 * 7 + 4, x.steps());
        Due.is("run()", 3, Due.run(x, 0, 50000, 60));
        Due.is("steps()", 60 * 6, x.steps());
        Due.is("result()", 0, x.result());
        Due.is("error()", -1, x.error());
        Due.is("run() again", 3, Due.run(x, 0, 50000, -1));
        Due.gives("and again", 42, x, 3);
        Due.is("out of fuel", 2, Due.run(x, 0, 60 * 6 - 1, 60));
    }

    /** Method 0 calls itself with one less until it is 0, and divides by it; method 1 is the same with a catch. */
    private static void errorsOfTheSixtiethMethod() {
        ClassMaker maker = new ClassMaker();
        for (int m = 0; m < 2; m++) {
            int self = maker.method("m" + m, "(I)I");
            Body body = new Body(2, 1).op(26).jump(153, "a").op(26).op(4).op(100).label("f").two(184, self).label("t").op(4).op(96)
                .op(172).label("a").op(4).op(26).label("d").op(108).label("e").op(172).label("h").op(87).op(3).op(172);
            if (m == 1) {
                body.caught("d", "e", "h", 0);
            }
            maker.addMethod("m" + m, "(I)I", body);
        }
        int first = maker.method("m0", "(I)I");
        maker.addMethod("m2", "(I)I", new Body(1, 1).label("f").op(26).two(184, first).op(172)
            .label("h").op(87).op(16, 77).op(172).caught("f", "h", "h", 0));
        CodeMachine x = Due.loaded("deep errors", maker);
        for (int below : new int[] {0, 1, 58, 59}) {
            Due.fails("not caught", 0, x, below);
            Due.is("steps()", 6 * below + 5, x.steps());
            Due.is("caught where it is", 0, Due.run(x, 1, 50000, below));
            Due.is("result()", below, x.result());
            Due.is("error()", -1, x.error());
        }
        Due.is("the 61st method", 3, Due.run(x, 1, 50000, 60));
        Due.is("error()", -1, x.error());
        Due.is("caught by the first", 0, Due.run(x, 2, 50000, 58));
        Due.is("result()", 77, x.result());
        Due.is("too deep is no error to catch", 3, Due.run(x, 2, 50000, 59));
        Due.is("result()", 0, x.result());
        Due.is("strays()", 0, x.strays());
    }

    /** Each method calls the next one; the last one's error is caught by the one that wants it, if it calls where it says. */
    private static void errorsPassThroughMethods() {
        for (int catcher = 0; catcher < 4; catcher++) {
            for (int where = 0; where < 4; where++) {
                CodeMachine x = Due.loaded("passing", passing(catcher, where));
                if (where < 2) {
                    Due.gives("caught by " + catcher, 10 * (catcher + 1) + catcher, x);
                } else {
                    Due.fails("not caught by " + catcher, 2, x);
                }
            }
        }
    }

    /** The catch has the call alone (0), all (1), all before it (2), all behind it (3); others want other errors. */
    private static ClassMaker passing(int catcher, int where) {
        ClassMaker maker = new ClassMaker();
        int wanted = maker.type("IndexError");
        int other = maker.type("NullError");
        for (int m = 0; m < 4; m++) {
            Body body = new Body(3, 0).label("begin").op(5).op(87).label("call");
            if (m < 3) {
                body.two(184, maker.method("m" + (m + 1), "()I"));
            } else {
                body.op(3).op(188, 10).op(3).label("take").op(46);
            }
            body.label("behind").op(4).op(96).label("end").op(172).label("h").op(87).op(16, 10 * (m + 1)).op(172).label("last");
            if (m == catcher) {
                String call = m < 3 ? "call" : "take";
                body.caught(where == 0 ? call : where < 3 ? "begin" : "behind", where == 0 ? "behind" : where == 2 ? call : "end",
                    "h", wanted);
            }
            maker.addMethod("m" + m, "()I", body.caught("begin", "end", "h", other));
        }
        return maker;
    }

    /** Offsets that need both of their bytes, on and back. */
    private static void jumpsGoFar() {
        for (int op : new int[] {153, 167, 198, 200}) {
            for (int far : new int[] {120, 130, 250, 260, 590}) {
                Body all = new Body(1, 1).op(3).op(59);
                if (op == 153) {
                    all.op(3);
                } else if (op == 198) {
                    all.op(1);
                }
                all.jump(op, "on").label("back").op(26).op(172);
                for (int n = 0; n < far; n++) {
                    all.op(0);
                }
                all.label("on").op(132, 0, 9);
                if (op == 153) {
                    all.op(3);
                } else if (op == 198) {
                    all.op(1);
                }
                all.jump(op, "back").op(4).op(172);
                Due.gives("jump " + op + " by " + far, 9, of("far", "()I", all));
            }
        }
    }

    /** Element n - 1 of n is there to read and to write, and n is not; of none not even 0. */
    private static void theLastElementIsOne() {
        ClassMaker maker = ClassMaker.of("([II)I", new Body(4, 2).put(42, 27, 16, 9, 79, 42, 27, 46, 172));
        maker.addMethod("make", "(I)[I", new Body(1, 1).put(26, 188, 10, 176));
        maker.addMethod("read", "([II)I", new Body(2, 2).put(42, 27, 46, 172));
        CodeMachine x = Due.loaded("elements", maker);
        int a = 0;
        for (int length : new int[] {0, 1, 2, 300}) {
            a++;
            Due.is("make", 0, Due.run(x, 1, 10, length));
            for (int index : new int[] {-1, 0, length - 1, length, length + 1, Integer.MAX_VALUE, Integer.MIN_VALUE}) {
                if (index >= 0 && index < length) {
                    Due.gives("element " + index + " of " + length, 9, x, a, index);
                } else {
                    Due.fails("element " + index + " of " + length, 2, x, a, index);
                    Due.is("read", 1, Due.run(x, 2, 10, a, index));
                    Due.is("error()", 2, x.error());
                    Due.is("element()", 0, x.element(a, index));
                }
            }
        }
        for (int index : new int[] {-1, 0, 1}) {
            Due.fails("null before the index", 1, x, 0, index);
            Due.is("read", 1, Due.run(x, 2, 10, 0, index));
            Due.is("error()", 1, x.error());
        }
    }

    private static void valuesWrap() {
        Due.gives("grow round", Integer.MIN_VALUE, of("grow", "(I)I", new Body(1, 1).put(132, 0, 1, 26, 172)), Integer.MAX_VALUE);
        Due.gives("shrink round", Integer.MAX_VALUE, of("grow", "(I)I", new Body(1, 1).put(132, 0, 255, 26, 172)), Integer.MIN_VALUE);
        for (int growth : new int[] {32767, -32768, 256, -256, 1, -1}) {
            Body wide = new Body(1, 1).put(196, 132, 0, 0, growth >> 8, growth, 26, 172);
            CodeMachine x = of("grow far", "(I)I", wide);
            for (int v : INTS) {
                Due.gives("grow " + v + " by " + growth, v + growth, x, v);
            }
        }
        CodeMachine div = of("div", "(II)I", new Body(2, 2).put(26, 27, 108, 172));
        Due.gives("the least by -1", Integer.MIN_VALUE, div, Integer.MIN_VALUE, -1);
        CodeMachine rem = of("rem", "(II)I", new Body(2, 2).put(26, 27, 112, 172));
        Due.gives("the least by -1", 0, rem, Integer.MIN_VALUE, -1);
        CodeMachine longDiv = of("div", "(JJ)J", new Body(4, 4).put(30, 32, 109, 173));
        Due.gives("the least by -1", Long.MIN_VALUE, longDiv, Long.MIN_VALUE, -1);
        CodeMachine longRem = of("rem", "(JJ)J", new Body(4, 4).put(30, 32, 113, 173));
        Due.gives("the least by -1", 0, longRem, Long.MIN_VALUE, -1);
        Due.fails("the least by 0", 0, div, Integer.MIN_VALUE, 0);
        Due.fails("the least by 0", 0, longRem, Long.MIN_VALUE, 0);
        CodeMachine low = of("low", "(II)I", new Body(2, 2).put(26, 27, 108, 172));
        Due.fails("a divisor whose lowest 32 bits are 0", 0, low, 1, 1L << 32);
    }

    private static void argumentsAreUsedUp() {
        CodeMachine x = new CodeMachine();
        for (int n = 1; n <= 8; n++) {
            Due.is("argument()", n, x.argument(n));
        }
        Due.is("argument()", -1, x.argument(9));
        Due.is("argument()", -1, x.argument(9));
        Due.is("run()", -1, x.run(0, 10));
        Due.is("argument()", 1, x.argument(5));
        Due.feed(x, ClassMaker.of("(I)I", new Body(1, 1).put(26, 172)).make());
        Due.is("load()", 0, x.load());
        Due.is("run() with the argument of before the load()", 0, x.run(0, 10));
        Due.is("result()", 5, x.result());
        x.argument(6);
        Due.is("reset()", true, x.reset());
        Due.is("run() with the argument of before the reset()", 0, x.run(0, 10));
        Due.is("result()", 6, x.result());
        Due.is("run()", -2, x.run(0, 10));
        Due.is("run()", -2, Due.run(x, 0, 10, 1, 2));
        Due.is("no method, and used up", -1, Due.run(x, 1, 10, 1));
        Due.is("no method", -1, x.run(-1, 10));
        Due.is("no method", -1, x.run(Integer.MAX_VALUE, 10));
        Due.is("used up", -2, x.run(0, 10));
        Due.is("no fuel that is, and used up", -3, Due.run(x, 0, -1, 1));
        Due.is("used up", -2, x.run(0, 10));
        Due.is("-2 before -3", -2, x.run(0, -1));
        Due.is("-1 before -2", -1, x.run(1, -1));
        Due.is("no fuel", 2, Due.run(x, 0, 0, 1));
        Due.is("used up", -2, x.run(0, 10));
        Due.gives("the lowest 32 bits", 7, x, (5L << 32) + 7);
        Due.gives("the lowest 32 bits with a sign", -1, x, 0xFFFFFFFFL);
        eightArguments();
        intsAreNumbersOfArrays();
    }

    private static void eightArguments() {
        Body body = new Body(4, 8).op(26).op(21, 7).op(100).op(172);
        CodeMachine x = of("eight", "(IIIIIIII)I", body);
        Due.gives("the first and the last", 1 - 8, x, 1, 2, 3, 4, 5, 6, 7, 8);
        CodeMachine y = of("four", "(JJJJ)J", new Body(4, 8).op(30).op(22, 6).op(101).op(173));
        Due.gives("longs", -9L << 40, y, 1L << 40, 0, 0, 10L << 40);
        for (int n = 1; n <= 8; n++) {
            Due.is("argument()", n, x.argument(10 * n));
        }
        for (int n = 0; n < 3; n++) {
            Due.is("a ninth argument", -1, x.argument(99));
        }
        Due.is("the first eight are kept", 0, x.run(0, 10));
        Due.is("result()", 10 - 80, x.result());
        Due.is("argument() after run()", 1, x.argument(1));
        Due.is("used up", -1, x.run(-1, 10));
        Due.is("too few by one", -2, Due.run(x, 0, 10, 1, 2, 3, 4, 5, 6, 7));
        Due.is("eight for four", -2, Due.run(y, 0, 10, 1, 2, 3, 4, 5, 6, 7, 8));
    }

    private static void intsAreNumbersOfArrays() {
        ClassMaker maker = ClassMaker.of("([I)I", new Body(1, 1).put(42, 190, 172));
        maker.addMethod("make", "(I)[I", new Body(1, 1).put(26, 188, 10, 176));
        CodeMachine x = Due.loaded("ints", maker);
        Due.is("no array yet", -2, Due.run(x, 0, 10, 1));
        Due.fails("null", 1, x, 0);
        Due.is("make", 0, Due.run(x, 1, 10, 7));
        Due.is("its number", 1, x.result());
        Due.is("make", 0, Due.run(x, 1, 10, 0));
        Due.is("its number", 2, x.result());
        Due.gives("length", 7, x, 1);
        Due.gives("length", 0, x, 2);
        for (long number : new long[] {3, -1, 1L << 32, (1L << 32) + 1, Long.MIN_VALUE, Long.MAX_VALUE}) {
            Due.is("no array", -2, Due.run(x, 0, 10, number));
        }
        x.reset();
        Due.is("gone by reset()", -2, Due.run(x, 0, 10, 1));
    }

    private static void refusedRunsChangeNothing() {
        refusedAfterEachOutcome();
        CodeMachine x = of("kept", "(I)I", new Body(3, 1).put(26, 16, 100, 26, 108, 96, 172));
        Due.gives("kept", 25, x, 20);
        for (int refused = 0; refused < 3; refused++) {
            Due.is("refused", -1 - refused, refused == 0 ? x.run(9, 5) : refused == 1 ? x.run(0, 5) : Due.run(x, 0, -5, 1));
            Due.is("result()", 25, x.result());
            Due.is("steps()", 6, x.steps());
            Due.is("error()", -1, x.error());
        }
        Due.fails("an error", 0, x, 0);
        Due.is("refused", -1, x.run(-1, 5));
        x.reset();
        x.load();
        Due.is("error()", 0, x.error());
        Due.is("steps()", 4, x.steps());
        Due.feed(x, ClassMaker.of("()V", new Body(0, 0).put(177)).make());
        Due.is("load()", 0, x.load());
        Due.is("error() after load()", 0, x.error());
        Due.is("steps() after load()", 4, x.steps());
        Due.is("run()", 0, x.run(0, 5));
        Due.is("error()", -1, x.error());
    }

    /** After each outcome refused runs, refused loads and reset() leave what was told of the run. */
    private static void refusedAfterEachOutcome() {
        ClassMaker maker = new ClassMaker();
        int self = maker.method("deep", "()V");
        maker.addMethod("one", "()I", new Body(1, 0).op(4).op(172));
        maker.addMethod("fails", "()I", new Body(1, 0).op(2).op(188, 10).op(190).op(172));
        maker.addMethod("endless", "()V", new Body(0, 0).op(167, 0, 0));
        maker.addMethod("deep", "()V", new Body(0, 0).two(184, self).op(177));
        maker.addMethod("large", "()[I", new Body(1, 0).two(17, 20001).op(188, 10).op(176));
        int[] steps = {2, 2, 100, 60, 2};
        CodeMachine x = Due.loaded("outcomes", maker);
        for (int outcome = 0; outcome < 5; outcome++) {
            Due.is("run()", outcome, x.run(outcome, 100));
            for (int then = 0; then < 7; then++) {
                Due.is("result()", outcome == 0 ? 1 : 0, x.result());
                Due.is("error()", outcome == 1 ? 3 : -1, x.error());
                Due.is("steps()", steps[outcome], x.steps());
                refused(x, then);
            }
        }
        Due.is("strays()", 0, x.strays());
    }

    private static void refused(CodeMachine x, int way) {
        switch (way) {
            case 0:
                Due.is("no method", -1, Due.run(x, 5, 10, 1));
                break;
            case 1:
                Due.is("an argument too many", -2, Due.run(x, 0, 10, 1));
                break;
            case 2:
                Due.is("no such fuel", -3, x.run(0, 50001));
                break;
            case 3:
                x.feed(0, 0, 0, 0, 0);
                Due.is("load()", 1, x.load());
                break;
            case 4:
                Due.is("reset()", true, x.reset());
                break;
            case 5:
                x.argument(5);
                Due.is("no method, and the argument is used up", -1, x.run(-1, 10));
                break;
            default:
                break;
        }
    }
}
