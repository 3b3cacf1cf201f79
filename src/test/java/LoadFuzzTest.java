import java.util.Random;

/** Promises 4, 5 and 7 once more: thousands of spoilt files, asked of the program and of the naive reader. */
public final class LoadFuzzTest {
    private static final String[] ERRORS = {"DivideError", "NullError", "IndexError", "SizeError"};
    private static final int[] told = new int[101];
    private static final int[] outcomes = new int[5];

    public static void main(String[] args) {
        int rounds = args.length > 0 ? Integer.parseInt(args[0]) : 1;
        long from = args.length > 1 ? Long.parseLong(args[1]) : 0;
        for (int seed = 0; seed < 150 * rounds; seed++) {
            spoilPrograms(from + seed);
        }
        for (int seed = 0; seed < 4000 * rounds; seed++) {
            soup(from + seed);
        }
        for (int rule = 0; rule < told.length; rule++) {
            if (told[rule] > 0) {
                System.out.print(rule + ": " + told[rule] + "  ");
            }
        }
        System.out.println();
        Due.is("runs returned, failed, and had no fuel", true, outcomes[0] > 0 && outcomes[1] > 0 && outcomes[2] > 0);
        Due.close();
    }

    /** Both tell the same of these bytes. */
    private static void both(String what, byte[] bytes) {
        Naive naive = new Naive(bytes);
        CodeMachine x = new CodeMachine();
        Due.feed(x, bytes);
        int rule = x.load();
        told[rule]++;
        Due.is(what + ": load()", naive.rule, rule);
        Due.is(what + ": place()", naive.place, x.place());
        if (rule == 0 && naive.rule == 0) {
            Due.is(what + ": size(1)", naive.methodCount(), x.size(1));
            for (int m = 0; m < naive.methodCount(); m++) {
                int[] heights = naive.heights(m);
                for (int i = 0; i < heights.length; i++) {
                    Due.is(what + ": height(" + m + ", " + i + ")", heights[i], x.height(m, i));
                }
                Due.is(what + ": height()", -1, x.height(m, heights.length));
                for (int fuel = 1; fuel <= 1000; fuel *= 10) {
                    runsWithoutStrays(what, x, m, fuel);
                }
            }
        }
    }

    /** Whatever was let through runs with the types and heights that were told. */
    private static void runsWithoutStrays(String what, CodeMachine x, int m, int fuel) {
        for (int given = 0; given <= 8; given++) {
            for (int n = 0; n < given; n++) {
                x.argument(0);
            }
            int outcome = x.run(m, fuel);
            if (outcome >= 0) {
                outcomes[outcome]++;
                Due.is(what + ": steps()", true, x.steps() <= fuel && (outcome != 2 || x.steps() == fuel));
                Due.is(what + ": error()", outcome == 1, x.error() >= 0);
                Due.is(what + ": strays()", 0, x.strays());
                return;
            }
            Due.is(what + ": run()", -2, outcome);
        }
        Due.is(what + ": some number of arguments is right", true, false);
    }

    private static void spoilPrograms(long seed) {
        ClassMaker maker = new RandomProgram(seed, "Above", ERRORS).maker();
        byte[] bytes = maker.make();
        if (bytes.length > 10000) {
            return;
        }
        both("program " + seed, bytes);
        Random random = new Random(seed);
        for (int n = 0; n < 100; n++) {
            byte[] spoilt = bytes.clone();
            for (int k = random.nextInt(3); k >= 0; k--) {
                int place = random.nextInt(bytes.length);
                if (random.nextInt(3) > 0) {
                    place = maker.codeAt(0) + random.nextInt(bytes.length - maker.codeAt(0));
                }
                int[] ways = {random.nextInt(256), spoilt[place] ^ 1 << random.nextInt(8), spoilt[place] + 1, spoilt[place] - 1};
                spoilt[place] = (byte) ways[random.nextInt(ways.length)];
            }
            both("program " + seed + ", spoilt " + n, spoilt);
        }
    }

    // Instructions that come about as often as they bring something new to the checking.
    private static final int[] SOUP = {0, 1, 1, 1, 3, 4, 3, 9, 9, 16, 21, 22, 25, 26, 27, 28, 30, 31, 32, 42, 43, 44, 42, 43,
        46, 54, 55, 58, 59, 60, 61, 63, 64, 75, 76, 77, 75, 76, 79, 87, 88, 89, 90, 92, 95, 87, 88, 89, 90, 92, 95, 96, 97, 116,
        123, 132, 133, 136, 148, 153, 159, 165, 167, 198, 199, 170, 171, 172, 173, 176, 177, 178, 179, 184, 188, 190, 191, 200};

    /** A row of any instructions, with jumps and catches to anywhere. */
    private static void soup(long seed) {
        Random random = new Random(seed);
        ClassMaker maker = new ClassMaker();
        String[] types = {"I", "J", "[I"};
        for (String type : types) {
            maker.addField("f" + type.charAt(0), type);
        }
        int most = 1 + random.nextInt(7);
        int parameters = random.nextInt(3);
        String type = "(" + new String[] {"", "I", "J[I"}[Math.min(parameters, most / 2)] + ")" + new String[] {"I", "J", "[I", "V"}[random.nextInt(4)];
        Body body = new Body(random.nextInt(20) == 0 ? 0 : 2 + random.nextInt(8), Math.max(most, 3));
        int count = 2 + random.nextInt(40);
        Sim sim = new Sim(type);
        for (int i = 0; i < count; i++) {
            body.label("l" + i);
            int op = SOUP[random.nextInt(SOUP.length)];
            for (int again = 0; again < 12 && !sim.likes(op, random); again++) {
                op = SOUP[random.nextInt(SOUP.length)];
            }
            sim.does(op);
            put(body, maker, random, op, count, Math.max(most, 3), type);
        }
        body.label("l" + count);
        if (random.nextInt(4) > 0) {
            body.op(177);
            count++;
            body.label("l" + count);
        }
        for (int c = random.nextInt(4); c > 1; c--) {
            int from = random.nextInt(count);
            int to = from + 1 + random.nextInt(Math.min(4, count - from));
            body.caught("l" + from, "l" + to, "l" + random.nextInt(count), random.nextInt(2) * maker.type("NullError"));
        }
        maker.addMethod("m", type, body);
        both("soup " + seed, maker.make());
    }

    /** How high the stack would be on the straight way, so that most rows get further than a few instructions. */
    private static final class Sim {
        private int height;

        Sim(String type) {
            height = type.isEmpty() ? 1 : 0;
        }

        private static int[] moves(int op) {
            if (op >= 153 && op <= 158 || op == 198 || op == 199 || op >= 170 && op <= 172 || op == 176 || op == 191
                || op >= 59 && op <= 62 || op >= 75 && op <= 78 || op == 54 || op == 58 || op == 87 || op == 179) {
                return new int[] {1, 0};
            }
            if (op == 55 || op >= 63 && op <= 66 || op == 88 || op >= 159 && op <= 166 || op == 173) {
                return new int[] {2, 0};
            }
            switch (op) {
                case 46:
                case 96:
                case 136:
                    return new int[] {2, 1};
                case 79:
                    return new int[] {3, 0};
                case 89:
                case 133:
                    return new int[] {1, 2};
                case 90:
                    return new int[] {2, 3};
                case 92:
                    return new int[] {2, 4};
                case 95:
                    return new int[] {2, 2};
                case 97:
                    return new int[] {4, 2};
                case 116:
                case 188:
                case 190:
                    return new int[] {1, 1};
                case 123:
                    return new int[] {3, 2};
                case 148:
                    return new int[] {4, 1};
                case 9:
                case 20:
                case 22:
                case 30:
                case 31:
                case 32:
                    return new int[] {0, 2};
                case 0:
                case 132:
                case 167:
                case 177:
                case 184:
                case 200:
                    return new int[] {0, 0};
                default:
                    return new int[] {0, 1};
            }
        }

        boolean likes(int op, Random random) {
            boolean jumps = op >= 153 && op <= 200 && op != 178 && op != 179 && op != 188 && op != 190;
            if (jumps && random.nextInt(3) > 0) {
                return false;
            }
            return height >= moves(op)[0] && height - moves(op)[0] + moves(op)[1] <= 4 || random.nextInt(40) == 0;
        }

        void does(int op) {
            height = Math.max(0, height - moves(op)[0]) + moves(op)[1];
        }
    }

    private static void put(Body body, ClassMaker maker, Random random, int op, int count, int most, String type) {
        String target = "l" + random.nextInt(count);
        switch (op) {
            case 16:
                body.op(16, random.nextInt(256));
                break;
            case 21:
            case 25:
            case 54:
            case 58:
                body.op(op, random.nextInt(most));
                break;
            case 22:
            case 55:
                body.op(op, random.nextInt(most - 1));
                break;
            case 132:
                body.op(op, random.nextInt(most), 1);
                break;
            case 170:
                body.table(0, target, "l" + random.nextInt(count));
                break;
            case 171:
                body.lookup(target, new int[] {random.nextInt()}, "l" + random.nextInt(count));
                break;
            case 178:
            case 179:
                String member = new String[] {"I", "J", "[I"}[random.nextInt(3)];
                body.two(op, maker.field("f" + member.charAt(0), member));
                break;
            case 184:
                body.two(op, maker.method("m", type));
                break;
            case 188:
                body.op(188, 10);
                break;
            default:
                if (op >= 153 && op <= 167 || op >= 198) {
                    body.jump(op, target);
                } else {
                    body.op(shortLocal(op, most));
                }
        }
    }

    /** The same kind of load or store with a local that there is. */
    private static int shortLocal(int op, int most) {
        boolean isLong = op >= 30 && op <= 33 || op >= 63 && op <= 66;
        boolean isLocal = isLong || op >= 26 && op <= 45 || op >= 59 && op <= 78;
        int local = op < 46 ? (op - 26) % 4 : (op - 59) % 4;
        return isLocal && local + (isLong ? 2 : 1) > most ? op - local : op;
    }
}
