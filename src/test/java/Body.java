import java.io.ByteArrayOutputStream;
import java.util.ArrayList;
import java.util.HashMap;
import java.util.List;
import java.util.Map;

/** The attribute Code of a method for the tests: instructions with labels, and catches. */
final class Body {
    private record Jump(int at, int from, int width, String label) {
    }

    private record Catch(String from, String to, String at, int type) {
    }

    private final ByteArrayOutputStream code = new ByteArrayOutputStream();
    private final List<Jump> jumps = new ArrayList<>();
    private final List<Catch> catches = new ArrayList<>();
    private final Map<String, Integer> labels = new HashMap<>();
    int filler = 77; // what stands before the operands of switches
    private int instructions; // counted by op, two, jump, table and lookup
    private final int mostStack;
    private final int mostLocals;

    Body(int mostStack, int mostLocals) {
        this.mostStack = mostStack;
        this.mostLocals = mostLocals;
    }

    int size() {
        return code.size();
    }

    int instructions() {
        return instructions;
    }

    /** One instruction. */
    Body op(int... bytes) {
        instructions++;
        return put(bytes);
    }

    /** Bytes that are not counted as instructions. */
    Body put(int... bytes) {
        for (int b : bytes) {
            code.write(b);
        }
        return this;
    }

    /** An instruction with a number of two bytes. */
    Body two(int op, int v) {
        return op(op, v >> 8, v);
    }

    Body label(String label) {
        labels.put(label, code.size());
        return this;
    }

    Body jump(int op, String label) {
        int from = code.size();
        instructions++;
        code.write(op);
        jumps.add(new Jump(code.size(), from, op == 200 ? 4 : 2, label));
        return put(op == 200 ? new int[4] : new int[2]);
    }

    private void offset(int from, String label) {
        jumps.add(new Jump(code.size(), from, 4, label));
        put(0, 0, 0, 0);
    }

    private Body four(int v) {
        return put(v >> 24, v >> 16, v >> 8, v);
    }

    private int beginSwitch(int op) {
        int from = code.size();
        instructions++;
        code.write(op);
        while (code.size() % 4 != 0) {
            code.write(filler);
        }
        return from;
    }

    Body table(int low, String other, String... targets) {
        int from = beginSwitch(170);
        offset(from, other);
        four(low);
        four(low + targets.length - 1);
        for (String target : targets) {
            offset(from, target);
        }
        return this;
    }

    Body lookup(String other, int[] numbers, String... targets) {
        int from = beginSwitch(171);
        offset(from, other);
        four(numbers.length);
        for (int n = 0; n < numbers.length; n++) {
            four(numbers[n]);
            offset(from, targets[n]);
        }
        return this;
    }

    Body caught(String from, String to, String at, int type) {
        catches.add(new Catch(from, to, at, type));
        return this;
    }

    private static void patch(byte[] bytes, int at, int width, int v) {
        for (int i = 0; i < width; i++) {
            bytes[at + i] = (byte) (v >> 8 * (width - 1 - i));
        }
    }

    byte[] codeBytes() {
        byte[] bytes = code.toByteArray();
        for (Jump jump : jumps) {
            patch(bytes, jump.at, jump.width, labels.get(jump.label) - jump.from);
        }
        return bytes;
    }

    byte[] bytes() {
        byte[] bytes = codeBytes();
        ByteArrayOutputStream out = new ByteArrayOutputStream();
        ClassMaker.two(out, mostStack);
        ClassMaker.two(out, mostLocals);
        ClassMaker.four(out, bytes.length);
        out.write(bytes, 0, bytes.length);
        ClassMaker.two(out, catches.size());
        for (Catch one : catches) {
            ClassMaker.two(out, labels.get(one.from));
            ClassMaker.two(out, labels.get(one.to));
            ClassMaker.two(out, labels.get(one.at));
            ClassMaker.two(out, one.type);
        }
        ClassMaker.two(out, 0);
        return out.toByteArray();
    }
}
