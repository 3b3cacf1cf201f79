/** Counts the answers that are not as due; what all tests share. */
final class Due {
    private static int asked;
    private static int wrong;

    private Due() {
    }

    static void is(String call, long want, long got) {
        asked++;
        if (want != got) {
            wrong++;
            System.out.println(call + " answered " + got + ", due is " + want);
        }
    }

    static void is(String call, boolean want, boolean got) {
        is(call, want ? 1 : 0, got ? 1 : 0);
    }

    static void close() {
        System.out.println(asked + " answers, " + wrong + " wrong");
        if (wrong > 0 || asked == 0) {
            System.exit(1);
        }
    }

    static void feed(CodeMachine x, byte[] bytes) {
        for (int at = 0; at < bytes.length; at += 20) {
            int[] words = new int[5];
            for (int i = 0; i < 20; i++) {
                int b = at + i < bytes.length ? bytes[at + i] & 255 : 0;
                words[i / 4] = words[i / 4] << 8 | b;
            }
            x.feed(words[0], words[1], words[2], words[3], words[4]);
        }
        x.end(bytes.length);
    }

    static CodeMachine loaded(String what, byte[] bytes) {
        CodeMachine x = new CodeMachine();
        feed(x, bytes);
        is(what + ": load()", 0, x.load());
        is(what + ": place()", -1, x.place());
        return x;
    }

    static CodeMachine loaded(String what, ClassMaker maker) {
        return loaded(what, maker.make());
    }

    /** The file breaks this rule, at this place. */
    static void breaks(String what, int rule, int place, byte[] bytes) {
        CodeMachine x = new CodeMachine();
        feed(x, bytes);
        is(what + ": load()", rule, x.load());
        is(what + ": place()", place, x.place());
        is(what + ": size(1)", -1, x.size(1));
    }

    static int run(CodeMachine x, int m, int fuel, long... arguments) {
        for (long argument : arguments) {
            x.argument(argument);
        }
        return x.run(m, fuel);
    }

    /** A run of method 0 that returns a value. */
    static void gives(String what, long want, CodeMachine x, long... arguments) {
        is(what + ": run()", 0, run(x, 0, 50000, arguments));
        is(what + ": result()", want, x.result());
        is(what + ": error()", -1, x.error());
        is(what + ": strays()", 0, x.strays());
    }

    /** A run of method 0 that an error ends. */
    static void fails(String what, int error, CodeMachine x, long... arguments) {
        is(what + ": run()", 1, run(x, 0, 50000, arguments));
        is(what + ": error()", error, x.error());
        is(what + ": result()", 0, x.result());
        is(what + ": strays()", 0, x.strays());
    }
}
