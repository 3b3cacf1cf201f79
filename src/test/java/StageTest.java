import java.util.Random;

/** Promises 6, 8 and 14 to 17: the stage, its fields and arrays, and that nothing strays. */
public final class StageTest {
    public static void main(String[] args) {
        fieldsKeepTheirValues();
        arraysKeepTheirElements();
        resetClearsTheStage();
        loadReplacesTheStage();
        elementsAreCounted();
        arraysAreCounted();
        nothingIsDoneBeyondTheLimits();
        nothingStrays();
        theStageStaysFromRunToRun();
        resetWithoutAStage();
        anyFieldOfTwentyFour();
        argumentsMayBeTheLastArray();
        Due.close();
    }

    /** 0 to 2 put the fields, 3 to 5 get them, 6 makes ints, 7 writes an element, 8 reads one, 9 puts null. */
    private static ClassMaker all() {
        ClassMaker maker = new ClassMaker();
        String[] types = {"I", "J", "[I"};
        int[] loads = {26, 30, 42};
        int[] returns = {172, 173, 176};
        for (int k = 0; k < 3; k++) {
            maker.addField("f" + k, types[k]);
        }
        for (int k = 0; k < 3; k++) {
            maker.addMethod("put" + k, "(" + types[k] + ")V", new Body(2, 2).op(loads[k])
                .two(179, maker.field("f" + k, types[k])).op(177));
        }
        for (int k = 0; k < 3; k++) {
            maker.addMethod("get" + k, "()" + types[k], new Body(2, 0).two(178, maker.field("f" + k, types[k])).op(returns[k]));
        }
        maker.addMethod("make", "(I)[I", new Body(1, 1).op(26).op(188, 10).op(176));
        maker.addMethod("write", "([III)V", new Body(3, 3).op(42).op(27).op(28).op(79).op(177));
        maker.addMethod("read", "([II)I", new Body(2, 2).op(42).op(27).op(46).op(172));
        maker.addMethod("drop", "()V", new Body(1, 0).op(1).two(179, maker.field("f2", "[I")).op(177));
        return maker;
    }

    private static void fieldsAre(CodeMachine x, long f0, long f1, long f2) {
        Due.is("field(0)", f0, x.field(0));
        Due.is("field(1)", f1, x.field(1));
        Due.is("field(2)", f2, x.field(2));
        Due.is("field(3)", 0, x.field(3));
        Due.is("field(-1)", 0, x.field(-1));
        Due.is("field(24)", 0, x.field(24));
        Due.is("field(max)", 0, x.field(Integer.MAX_VALUE));
        Due.is("field(min)", 0, x.field(Integer.MIN_VALUE));
        long[] want = {f0, f1, f2};
        for (int k = 0; k < 3; k++) {
            Due.is("get " + k, 0, x.run(3 + k, 10));
            Due.is("result()", want[k], x.result());
        }
    }

    private static void fieldsKeepTheirValues() {
        CodeMachine x = Due.loaded("fields", all());
        fieldsAre(x, 0, 0, 0);
        Due.is("put 0", 0, Due.run(x, 0, 10, Integer.MIN_VALUE));
        Due.is("put 1", 0, Due.run(x, 1, 10, Long.MIN_VALUE + 5));
        Due.is("make", 0, Due.run(x, 6, 10, 3));
        Due.is("put 2", 0, Due.run(x, 2, 10, 1));
        fieldsAre(x, Integer.MIN_VALUE, Long.MIN_VALUE + 5, 1);
        Due.is("drop", 0, x.run(9, 10));
        Due.is("put 0", 0, Due.run(x, 0, 10, 0xFFFFFFFFL));
        fieldsAre(x, -1, Long.MIN_VALUE + 5, 0);
        Due.is("put 0 without fuel", 2, Due.run(x, 0, 1, 3));
        fieldsAre(x, -1, Long.MIN_VALUE + 5, 0);
        Due.is("put 0 without fuel to return", 2, Due.run(x, 0, 2, 3));
        fieldsAre(x, 3, Long.MIN_VALUE + 5, 0);
    }

    private static void arraysKeepTheirElements() {
        CodeMachine x = Due.loaded("arrays", all());
        int[] lengths = {3, 0, 1, 500};
        for (int a = 1; a <= lengths.length; a++) {
            Due.is("arrayLength()", -1, x.arrayLength(a));
            Due.is("make", 0, Due.run(x, 6, 10, lengths[a - 1]));
            Due.is("result()", a, x.result());
            Due.is("arrayLength()", lengths[a - 1], x.arrayLength(a));
            Due.is("arrayLength() behind", -1, x.arrayLength(a + 1));
        }
        for (int a = 1; a <= lengths.length; a++) {
            for (int i = 0; i < lengths[a - 1]; i += 100) {
                Due.is("write", 0, Due.run(x, 7, 10, a, i, 1000 * a + i));
            }
        }
        for (int a = 1; a <= lengths.length; a++) {
            for (int i = 0; i < lengths[a - 1]; i++) {
                Due.is("element()", i % 100 == 0 ? 1000 * a + i : 0, x.element(a, i));
            }
            Due.is("element(-1)", 0, x.element(a, -1));
            Due.is("element() behind", 0, x.element(a, lengths[a - 1]));
            Due.is("element(max)", 0, x.element(a, Integer.MAX_VALUE));
        }
        Due.is("read", 0, Due.run(x, 8, 10, 4, 400));
        Due.is("result()", 4400, x.result());
        for (int a : new int[] {0, -1, 5, 400, 401, Integer.MAX_VALUE, Integer.MIN_VALUE}) {
            Due.is("element() of none", 0, x.element(a, 0));
            Due.is("arrayLength() of none", -1, x.arrayLength(a));
        }
    }

    private static void resetClearsTheStage() {
        CodeMachine x = Due.loaded("reset", all());
        Due.is("put 0", 0, Due.run(x, 0, 10, 5));
        Due.is("put 1", 0, Due.run(x, 1, 10, 6));
        Due.is("make", 0, Due.run(x, 6, 10, 4));
        Due.is("put 2", 0, Due.run(x, 2, 10, 1));
        Due.is("write", 0, Due.run(x, 7, 10, 1, 2, 9));
        Due.is("reset()", true, x.reset());
        Due.is("arrayLength()", -1, x.arrayLength(1));
        Due.is("element()", 0, x.element(1, 2));
        Due.is("steps()", 5, x.steps());
        fieldsAre(x, 0, 0, 0);
        Due.is("size(1)", 10, x.size(1));
        Due.is("make", 0, Due.run(x, 6, 10, 4));
        Due.is("result()", 1, x.result());
        Due.is("the elements are 0 again", 0, x.element(1, 2));
    }

    private static void loadReplacesTheStage() {
        CodeMachine x = Due.loaded("load", all());
        Due.is("put 1", 0, Due.run(x, 1, 10, 6));
        Due.is("make", 0, Due.run(x, 6, 10, 4));
        Due.feed(x, new byte[] {1, 2, 3});
        Due.is("load()", 1, x.load());
        Due.is("field() stays", 6, x.field(1));
        Due.is("arrayLength() stays", 4, x.arrayLength(1));
        ClassMaker faulty = ClassMaker.of("()V", new Body(1, 0).put(87, 177));
        Due.feed(x, faulty.make());
        Due.is("load()", 100, x.load());
        Due.is("size(1)", 10, x.size(1));
        Due.is("field() stays", 6, x.field(1));
        Due.feed(x, all().make());
        Due.is("load()", 0, x.load());
        Due.is("field()", 0, x.field(1));
        Due.is("arrayLength()", -1, x.arrayLength(1));
        ClassMaker other = new ClassMaker();
        other.addField("one", "J");
        other.addMethod("m", "()V", new Body(0, 0).put(0, 177));
        Due.feed(x, other.make());
        Due.is("load()", 0, x.load());
        Due.is("size(0)", 1, x.size(0));
        Due.is("size(1)", 1, x.size(1));
        Due.is("size(2)", 2, x.size(2));
        Due.is("field(1)", 0, x.field(1));
    }

    private static void elementsAreCounted() {
        CodeMachine x = Due.loaded("elements", all());
        Due.is("make all but one", 0, Due.run(x, 6, 10, 19999));
        Due.is("two more", 4, Due.run(x, 6, 10, 2));
        Due.is("result()", 0, x.result());
        Due.is("error()", -1, x.error());
        Due.is("steps()", 2, x.steps());
        Due.is("arrayLength()", -1, x.arrayLength(2));
        Due.is("none", 0, Due.run(x, 6, 10, 0));
        Due.is("one more", 0, Due.run(x, 6, 10, 1));
        Due.is("result()", 3, x.result());
        Due.is("one beyond", 4, Due.run(x, 6, 10, 1));
        Due.is("none", 0, Due.run(x, 6, 10, 0));
        Due.is("a length below 0 is an error still", 1, Due.run(x, 6, 10, -1));
        Due.is("error()", 3, x.error());
        Due.is("very many", 4, Due.run(x, 6, 10, Integer.MAX_VALUE));
        Due.is("write", 0, Due.run(x, 7, 10, 3, 0, 8));
        Due.is("element()", 8, x.element(3, 0));
        x.reset();
        Due.is("all", 0, Due.run(x, 6, 10, 20000));
        Due.is("element() is 0 again", 0, x.element(1, 19999));
        x.reset();
        Due.is("more than all", 4, Due.run(x, 6, 10, 20001));
    }

    private static void arraysAreCounted() {
        ClassMaker maker = new ClassMaker();
        maker.addMethod("m", "(I)I", new Body(2, 1).label("a").op(26).jump(153, "b").op(3).op(188, 10).op(87).op(132, 0, 255)
            .jump(167, "a").label("b").op(26).op(172));
        CodeMachine x = Due.loaded("many", maker);
        Due.is("400 arrays", 0, Due.run(x, 0, 50000, 400));
        Due.is("arrayLength()", 0, x.arrayLength(400));
        Due.is("one more", 4, Due.run(x, 0, 50000, 1));
        Due.is("steps()", 4, x.steps());
        Due.is("arrayLength()", -1, x.arrayLength(401));
        Due.is("no more", 0, Due.run(x, 0, 50000, 0));
        x.reset();
        Due.is("401 arrays", 4, Due.run(x, 0, 50000, 401));
        Due.is("arrayLength()", 0, x.arrayLength(400));
    }

    private static void nothingIsDoneBeyondTheLimits() {
        ClassMaker maker = new ClassMaker();
        maker.addField("f", "I");
        Body body = new Body(2, 1).label("f").op(26).op(188, 10).op(190).two(179, maker.field("f", "I")).label("t").op(177)
            .label("h").op(87).op(8).two(179, maker.field("f", "I")).op(177).caught("f", "t", "h", 0);
        maker.addMethod("m", "(I)V", body);
        CodeMachine x = Due.loaded("limits", maker);
        Due.is("no catch has it", 4, Due.run(x, 0, 100, 20001));
        Due.is("field(0)", 0, x.field(0));
        Due.is("caught", 0, Due.run(x, 0, 100, -20001));
        Due.is("field(0)", 5, x.field(0));
    }

    private static void nothingStrays() {
        CodeMachine x = Due.loaded("strays", all());
        Random random = new Random(7);
        for (int n = 0; n < 60; n++) {
            int m = random.nextInt(10);
            int given = new int[] {1, 1, 1, 0, 0, 0, 1, 3, 2, 0}[m];
            for (int k = 0; k < given; k++) {
                x.argument(random.nextInt(3));
            }
            x.run(m, random.nextInt(8));
            Due.is("strays()", 0, x.strays());
        }
    }

    /** What a run did before it was ended by an error, by its fuel, by depth or by size stays. */
    private static void theStageStaysFromRunToRun() {
        ClassMaker maker = new ClassMaker();
        maker.addField("f", "I");
        maker.addField("a", "[I");
        int f = maker.field("f", "I");
        int a = maker.field("a", "[I");
        int self = maker.method("m3", "()V");
        for (int m = 0; m < 5; m++) {
            Body body = new Body(3, 0).op(16, 10 + m).two(179, f).op(7).op(188, 10).op(89).two(179, a).op(5).op(8).op(79);
            switch (m) {
                case 0:
                    body.op(177);
                    break;
                case 1:
                    body.op(1).op(191);
                    break;
                case 2:
                    body.label("again").jump(167, "again");
                    break;
                case 3:
                    body.label("deep").two(184, self).op(177);
                    break;
                default:
                    body.two(17, 20001).op(188, 10).op(87).op(177);
            }
            maker.addMethod("m" + m, "()V", body);
        }
        CodeMachine x = Due.loaded("stays", maker);
        int arrays = 0;
        for (int m = 0; m < 5; m++) {
            Due.is("run()", m, x.run(m, 1000));
            arrays += m == 3 ? 60 : 1;
            Due.is("field(0)", 10 + m, x.field(0));
            Due.is("field(1)", arrays, x.field(1));
            Due.is("arrayLength()", 4, x.arrayLength(arrays));
            Due.is("arrayLength() behind", -1, x.arrayLength(arrays + 1));
            Due.is("element()", 5, x.element(arrays, 2));
            Due.is("element() of the first", 5, x.element(1, 2));
        }
        Due.is("a refused run()", -1, x.run(5, 10));
        Due.is("field(0) stays", 14, x.field(0));
        Due.is("arrayLength() stays", 4, x.arrayLength(arrays));
    }

    private static void resetWithoutAStage() {
        CodeMachine x = new CodeMachine();
        Due.is("reset()", false, x.reset());
        x.feed(0xCAFEBABE, 49, 0, 0, 0);
        Due.is("reset() of the tray's file", false, x.reset());
        Due.is("end(20)", true, x.end(20));
        Due.is("load()", 5, x.load());
        Due.is("reset() after a faulty load()", false, x.reset());
        Due.feed(x, all().make());
        Due.is("reset() before the load()", false, x.reset());
        Due.is("load()", 0, x.load());
        Due.is("reset()", true, x.reset());
        Due.is("reset() again", true, x.reset());
        Due.is("load() of nothing", 2, x.load());
        Due.is("reset() of the file that stayed", true, x.reset());
    }

    private static void anyFieldOfTwentyFour() {
        ClassMaker maker = new ClassMaker();
        for (int k = 0; k < 24; k++) {
            maker.addField("f" + k, k % 2 == 0 ? "J" : "I");
        }
        for (int m = 0; m < 24; m++) {
            String type = m % 2 == 0 ? "J" : "I";
            maker.addMethod("m" + m, "(" + type + ")" + type, new Body(2, 2).op(m % 2 == 0 ? 30 : 26).two(179, maker.field("f" + m, type))
                .two(178, maker.field("f" + m, type)).op(m % 2 == 0 ? 173 : 172));
        }
        CodeMachine x = Due.loaded("24 fields", maker);
        for (int k = 23; k >= 0; k--) {
            long v = k % 2 == 0 ? Long.MIN_VALUE + k : Integer.MIN_VALUE + k;
            Due.is("run()", 0, Due.run(x, k, 10, v));
            Due.is("result()", v, x.result());
        }
        for (int k = 0; k < 24; k++) {
            Due.is("field()", k % 2 == 0 ? Long.MIN_VALUE + k : Integer.MIN_VALUE + k, x.field(k));
        }
        Due.is("field(24)", 0, x.field(24));
        Due.is("run() of method 24", -1, x.run(24, 10));
        Due.is("height() in method 23", 0, x.height(23, 0));
        Due.is("height() in method 24", -1, x.height(24, 0));
    }

    /** As an argument for ints the number of the last array is one, and the next is none. */
    private static void argumentsMayBeTheLastArray() {
        CodeMachine x = Due.loaded("arguments", all());
        for (int arrays = 0; arrays <= 5; arrays++) {
            for (long number = -1; number <= arrays + 1; number++) {
                boolean right = number >= 0 && number <= arrays;
                Due.is("array " + number + " of " + arrays, right ? 0 : -2, Due.run(x, 2, 10, number));
                if (right) {
                    Due.is("field(2)", number, x.field(2));
                }
            }
            Due.is("make", 0, Due.run(x, 6, 10, arrays));
        }
    }
}
