import java.util.ArrayList;
import java.util.Arrays;
import java.util.List;
import java.util.Random;

/**
 * All promises at once: any calls with any arguments in any state, at most 512 for one object. None throws,
 * and each answers by a plain model of the tray, the arguments, the stage and the latest run.
 */
public final class AnyCallsTest {
    private static final int[] EDGES = {0, 1, -1, 2, 3, 19, 20, 21, 23, 24, 25, 40, 400, 401, 500, 15980, 16000, 20000, 50000, 50001,
        Integer.MAX_VALUE, Integer.MIN_VALUE};
    private static final int MOST_CALLS = 512;

    private final Random random;
    private final CodeMachine x = new CodeMachine();
    private final List<byte[]> files = new ArrayList<>();
    private int calls;
    private byte[] tray = new byte[0];
    private final List<Long> arguments = new ArrayList<>();
    private Naive staged;
    private int place = -1;
    private long result;
    private int error = -1;
    private int steps;
    private static int loaded;
    private static int ran;

    private AnyCallsTest(long seed) {
        random = new Random(seed);
        files.add(arrays().make());
        files.add(ClassMaker.of("(I)I", new Body(2, 1).label("a").op(4).op(26).op(108).op(59).jump(167, "a")).make());
        files.add(ClassMaker.of("([IJI)J", new Body(4, 4).put(31, 27, 133, 97, 173)).make());
        files.add(ClassMaker.of("()V", new Body(1, 0).put(0, 87, 177)).make());
        files.add(new ClassMaker().make());
    }

    public static void main(String[] args) {
        for (long seed = 0; seed < 800; seed++) {
            new AnyCallsTest(seed).call();
        }
        System.out.println(loaded + " loads, " + ran + " runs");
        Due.is("files were loaded", true, loaded > 2000);
        Due.is("methods were run", true, ran > 5000);
        Due.close();
    }

    /** Makes ints and keeps them in a field, reads them, and writes them. */
    private static ClassMaker arrays() {
        ClassMaker maker = new ClassMaker();
        maker.addField("a", "[I");
        maker.addField("j", "J");
        maker.addMethod("make", "(I)[I", new Body(2, 1).op(26).op(188, 10).op(89).two(179, maker.field("a", "[I")).op(176));
        maker.addMethod("read", "([II)I", new Body(2, 2).op(42).op(27).op(46).op(172));
        maker.addMethod("write", "([III)V", new Body(3, 3).op(42).op(27).op(28).op(79).op(177));
        maker.addMethod("keep", "(J)V", new Body(2, 2).op(30).two(179, maker.field("j", "J")).op(177));
        return maker;
    }

    private int edge() {
        return random.nextInt(3) == 0 ? EDGES[random.nextInt(EDGES.length)] : random.nextInt(5) - 1;
    }

    private void call() {
        loadFile();
        while (calls < MOST_CALLS - 60) {
            switch (random.nextInt(24)) {
                case 0:
                    feed(edge(), edge(), edge(), edge(), edge());
                    break;
                case 1:
                    end(random.nextBoolean() ? edge() : tray.length + edge());
                    break;
                case 2:
                    load();
                    break;
                case 3:
                    loadFile();
                    break;
                case 4:
                    reset();
                    break;
                case 5:
                case 6:
                    argument(random.nextInt(4) == 0 ? random.nextLong() : edge());
                    break;
                case 7:
                case 8:
                case 9:
                case 10:
                case 11:
                case 12:
                case 13:
                case 14:
                case 15:
                    run(random.nextInt(8) == 0 ? edge() : random.nextInt(4), random.nextInt(4) == 0 ? edge() : 100);
                    break;
                default:
                    look();
            }
        }
        Due.is("strays()", 0, x.strays());
    }

    private void feed(int... words) {
        calls++;
        int want = tray.length + 20;
        tray = Arrays.copyOf(tray, want);
        for (int i = 0; i < 20; i++) {
            tray[want - 20 + i] = (byte) (words[i / 4] >> 24 - i % 4 * 8);
        }
        Due.is("feed()", want, x.feed(words[0], words[1], words[2], words[3], words[4]));
    }

    private void end(int n) {
        calls++;
        boolean right = n >= 0 && n <= tray.length;
        Due.is("end(" + n + ") of " + tray.length, right, x.end(n));
        tray = right ? Arrays.copyOf(tray, n) : tray;
    }

    private void load() {
        calls++;
        Naive naive = new Naive(tray);
        tray = new byte[0];
        Due.is("load()", naive.rule, x.load());
        place = naive.place;
        if (naive.rule == 0) {
            staged = naive;
            loaded++;
        }
    }

    /** One of the files, sometimes with a wrong byte; what lies in the tray is cut before. */
    private void loadFile() {
        end(0);
        byte[] bytes = files.get(random.nextInt(10) < 6 ? 0 : random.nextInt(files.size())).clone();
        if (random.nextInt(6) == 0) {
            bytes[random.nextInt(bytes.length)] ^= 1 << random.nextInt(8);
        }
        int[] words = new int[5];
        for (int at = 0; at < bytes.length; at += 20) {
            for (int i = 0; i < 20; i++) {
                words[i / 4] = words[i / 4] << 8 | (at + i < bytes.length ? bytes[at + i] & 255 : 0);
            }
            feed(words);
        }
        end(bytes.length);
        load();
    }

    private void reset() {
        calls++;
        Due.is("reset()", staged != null, x.reset());
        if (staged != null) {
            Due.is("field(0) after reset()", 0, x.field(0));
            Due.is("arrayLength(1) after reset()", -1, x.arrayLength(1));
            calls += 2;
        }
    }

    private void argument(long v) {
        calls++;
        boolean full = arguments.size() == 8;
        Due.is("argument()", full ? -1 : arguments.size() + 1, x.argument(v));
        if (!full) {
            arguments.add(v);
        }
    }

    /** The answer of a refused run; 0 if it is not refused. */
    private int refusal(int m, int fuel) {
        if (staged == null || m < 0 || m >= staged.methodCount()) {
            return -1;
        }
        String letters = staged.parameters(m);
        if (arguments.size() != letters.length()) {
            return -2;
        }
        for (int n = 0; n < letters.length(); n++) {
            long v = arguments.get(n);
            if (letters.charAt(n) == 'N' && v != 0) {
                calls++;
                if (v != (int) v || x.arrayLength((int) v) < 0) {
                    return -2;
                }
            }
        }
        return fuel < 0 || fuel > 50000 ? -3 : 0;
    }

    private void run(int m, int fuel) {
        if (staged != null && m >= 0 && m < staged.methodCount() && random.nextInt(4) > 0) {
            while (arguments.size() < staged.parameters(m).length()) {
                argument(edge());
            }
        }
        calls += 4;
        int refusal = refusal(m, fuel);
        int outcome = x.run(m, fuel);
        arguments.clear();
        if (refusal < 0) {
            Due.is("run()", refusal, outcome);
            return;
        }
        ran++;
        Due.is("run() is not refused", true, outcome >= 0 && outcome <= 4);
        result = x.result();
        error = x.error();
        steps = x.steps();
        Due.is("a result only of 0", true, outcome == 0 || result == 0);
        Due.is("an error only of 1", outcome == 1, error >= 0 && error <= 3);
        Due.is("steps by fuel", true, outcome == 2 ? steps == fuel : steps > 0 && steps <= fuel);
    }

    private void look() {
        calls += 5;
        Due.is("place()", place, x.place());
        Due.is("result()", result, x.result());
        Due.is("error()", error, x.error());
        Due.is("steps()", steps, x.steps());
        int m = edge();
        int i = edge();
        boolean none = staged == null || m < 0 || m >= staged.methodCount() || i < 0 || i >= staged.heights(m).length;
        Due.is("height(" + m + ", " + i + ")", none ? -1 : staged.heights(m)[i], x.height(m, i));
        lookAtArrays(edge(), edge());
    }

    private void lookAtArrays(int a, int i) {
        calls += 5;
        int length = x.arrayLength(a);
        Due.is("arrayLength(" + a + ")", true, length >= -1 && length <= 20000 && (length < 0 || a > 0 && a <= 400));
        int element = x.element(a, i);
        Due.is("element(" + a + ", " + i + ")", true, element == 0 || i >= 0 && i < length);
        long field = x.field(a);
        Due.is("field(" + a + ")", true, field == 0 || a >= 0 && a < 2);
        int size = x.size(i);
        Due.is("size(" + i + ")", staged == null || i < 0 || i > 2, size < 0);
        Due.is("size(1)", staged == null ? -1 : staged.methodCount(), x.size(1));
    }
}
