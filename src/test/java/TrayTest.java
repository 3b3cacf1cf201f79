/** Promises 1 to 5: a new object, the tray, and what comes of it. */
public final class TrayTest {
    private static final byte[] SMALL = ClassMaker.of("()I", new Body(1, 0).put(8, 172)).make();

    public static void main(String[] args) {
        aNewObjectIsEmpty();
        feedCounts();
        theTrayIsFull();
        endCuts();
        loadEmptiesTheTray();
        refusedFeedsFeedNothing();
        allThatIsFedCounts();
        thePlaceIsOfTheLatestLoad();
        theFifthWordIsTheLast();
        Due.close();
    }

    private static void aNewObjectIsEmpty() {
        CodeMachine x = new CodeMachine();
        Due.is("place()", -1, x.place());
        for (int what = -1; what <= 3; what++) {
            Due.is("size()", -1, x.size(what));
        }
        Due.is("height()", -1, x.height(0, 0));
        Due.is("reset()", false, x.reset());
        Due.is("run()", -1, x.run(0, 100));
        Due.is("result()", 0, x.result());
        Due.is("error()", -1, x.error());
        Due.is("steps()", 0, x.steps());
        Due.is("field()", 0, x.field(0));
        Due.is("element()", 0, x.element(1, 0));
        Due.is("arrayLength()", -1, x.arrayLength(1));
        Due.is("arrayLength()", -1, x.arrayLength(0));
        Due.is("strays()", 0, x.strays());
        Due.is("end(0)", true, x.end(0));
        Due.is("end(1)", false, x.end(1));
        Due.is("load()", 2, x.load());
        Due.is("place()", 0, x.place());
    }

    private static void feedCounts() {
        CodeMachine x = new CodeMachine();
        for (int n = 1; n <= 500; n++) {
            Due.is("feed()", 20 * n, x.feed(n, -n, 0, -1, Integer.MIN_VALUE));
        }
    }

    // 16000 bytes take 800 calls, so that this runs beyond the 512 calls of one object; what is
    // tested here still costs nothing to keep.
    private static void theTrayIsFull() {
        CodeMachine x = new CodeMachine();
        for (int n = 1; n <= 800; n++) {
            Due.is("feed()", 20 * n, x.feed(0, 0, 0, 0, 0));
        }
        Due.is("feed()", -1, x.feed(0, 0, 0, 0, 0));
        Due.is("end()", true, x.end(15980));
        Due.is("feed()", 16000, x.feed(0, 0, 0, 0, 0));
        Due.is("end()", true, x.end(15981));
        Due.is("feed()", -1, x.feed(0, 0, 0, 0, 0));
        for (int n = 802; n <= 3276; n++) {
            x.end(0);
            Due.is("feed()", 20, x.feed(0, 0, 0, 0, 0));
        }
        x.end(0);
        Due.is("feed() beyond 65536", -1, x.feed(0, 0, 0, 0, 0));
        Due.is("end(1)", false, x.end(1));
    }

    private static void endCuts() {
        CodeMachine x = new CodeMachine();
        x.feed(1, 2, 3, 4, 5);
        Due.is("end(-1)", false, x.end(-1));
        Due.is("end(21)", false, x.end(21));
        Due.is("end(max)", false, x.end(Integer.MAX_VALUE));
        Due.is("end(min)", false, x.end(Integer.MIN_VALUE));
        Due.is("feed()", 40, x.feed(1, 2, 3, 4, 5));
        Due.is("end(40)", true, x.end(40));
        Due.is("end(7)", true, x.end(7));
        Due.is("end(8)", false, x.end(8));
        Due.is("feed()", 27, x.feed(1, 2, 3, 4, 5));
    }

    private static void loadEmptiesTheTray() {
        CodeMachine x = Due.loaded("small", SMALL);
        Due.is("end(1)", false, x.end(1));
        Due.is("feed()", 20, x.feed(0xCAFEBABE, 49, 0, 0, 0));
        Due.is("load()", 5, x.load());
        Due.is("place()", 8, x.place());
        Due.is("feed()", 20, x.feed(0, 0, 0, 0, 0));
        Due.is("size(1) after a fault", 1, x.size(1));
        Due.gives("the stage stays", 5, x);
        x.end(0);
        Due.feed(x, SMALL);
        Due.is("load()", 0, x.load());
        Due.is("place()", -1, x.place());
        Due.is("place() again", -1, x.place());
    }

    /** At 15981 bytes there is no room for twenty more; what was refused neither lies in the tray nor counts. */
    private static void refusedFeedsFeedNothing() {
        CodeMachine x = new CodeMachine();
        for (int n = 1; n <= 800; n++) {
            x.feed(0, 0, 0, 0, 0);
        }
        Due.is("end(15981)", true, x.end(15981));
        for (int n = 0; n < 100; n++) {
            Due.is("feed() without room", -1, x.feed(-1, -1, -1, -1, -1));
        }
        Due.is("end(15982)", false, x.end(15982));
        Due.is("end(15981)", true, x.end(15981));
        Due.is("end(15980)", true, x.end(15980));
        Due.is("feed() with just room", 16000, x.feed(0, 0, 0, 0, 0));
        Due.is("end(16001)", false, x.end(16001));
        Due.is("end(16000)", true, x.end(16000));
        for (int n = 801; n < 3276; n++) {
            x.end(0);
            Due.is("feed()", 20, x.feed(0, 0, 0, 0, 0));
        }
        Due.is("feed() beyond 65536", -1, x.feed(0, 0, 0, 0, 0));
        Due.is("end(21)", false, x.end(21));
        Due.is("end(20)", true, x.end(20));
    }

    /** load() empties the tray, but what was fed before it still counts, and so does what end() cut. */
    private static void allThatIsFedCounts() {
        CodeMachine x = new CodeMachine();
        for (int n = 1; n <= 3276; n++) {
            Due.is("feed()", 20, x.feed(0, 0, 0, 0, 0));
            if (n % 3 > 0) {
                x.end(n % 20);
            }
            Due.is("load()", n % 3 > 0 && n % 20 == 0 ? 2 : 1, x.load());
        }
        Due.is("feed() beyond 65536", -1, x.feed(0, 0, 0, 0, 0));
        Due.is("the tray is empty", false, x.end(1));
        Due.is("load()", 2, x.load());
    }

    private static void thePlaceIsOfTheLatestLoad() {
        CodeMachine x = new CodeMachine();
        x.feed(0xCAFEBABE, 49, 0x00010021, 0, 0);
        x.end(7);
        Due.is("place() before the first load()", -1, x.place());
        Due.is("load()", 2, x.load());
        Due.is("place()", 7, x.place());
        Due.feed(x, SMALL);
        Due.is("feed() leaves place()", 7, x.place());
        x.run(0, 10);
        x.reset();
        Due.is("run() and reset() leave place()", 7, x.place());
        Due.is("load()", 0, x.load());
        Due.is("place() of none", -1, x.place());
        Due.feed(x, ClassMaker.of("()V", new Body(1, 0).put(177, 0, 0)).make());
        Due.is("load() of what is not come to", 0, x.load());
        Due.feed(x, ClassMaker.of("()V", new Body(1, 0).put(0, 0)).make());
        Due.is("load()", 100, x.load());
        Due.is("place() is the number of the instruction", 1, x.place());
        Due.is("load() of the empty tray", 2, x.load());
        Due.is("place()", 0, x.place());
    }

    private static void theFifthWordIsTheLast() {
        // The words lie in the tray in their order, the highest byte first: the first that is wrong is told.
        int[] right = {0xCAFEBABE, 49, 0x00010021, 0, 0};
        for (int at = 0; at < 8; at++) {
            int[] words = right.clone();
            words[at / 4] ^= 1 << 8 * (3 - at % 4);
            CodeMachine x = new CodeMachine();
            x.feed(words[0], words[1], words[2], words[3], words[4]);
            Due.is("load() with a wrong byte", 1, x.load());
            Due.is("place() of a wrong byte", at, x.place());
        }
    }
}
