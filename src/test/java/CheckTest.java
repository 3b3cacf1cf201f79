import java.util.ArrayList;
import java.util.List;

/** Promises 4, 5 and 7 for the checking: what instructions take and leave, joins, stores, and the heights. */
public final class CheckTest {
    // Kinds of a unit on the stack: I an int, J a long, N ints, 0 null, E an error, X of no type.
    private static final String UNITS = "IJN0EX";

    private static ClassMaker maker;
    private static Body body;
    private static int labels;

    public static void main(String[] args) {
        instructionsTakeTheirTypes();
        shufflesTakeTheirTypes();
        localsAreLoadedByTheirTypes();
        returnsAreAsTheMethodsType();
        storesBreakHalves();
        growLeavesTheType();
        waysJoin();
        halvesJoin();
        catchesGetTheLocalsBefore();
        eachCatchIsComeTo();
        whatComesLaterGoesOnToo();
        tooFewAndTooMany();
        stacksAreAsHighAsTold();
        shufflesHaveTooFew();
        heightsDiffer();
        theLastDoesNotGoOn();
        everyLastInstruction();
        faultsOfHeightStopTypes();
        faultsOfHeightStopTypesInCatches();
        theFirstFaultIsTold();
        badTypesAreNotCopied();
        badShufflesCopyNothing();
        resultsHaveTheirTypesWhateverWasTaken();
        growKeepsWhatItFinds();
        heightsAreTold();
        Due.close();
    }

    /** Begins a method of type (I[IJ)result: locals 0 an int, 1 ints, 2 and 3 a long, 4 an error, 5 nothing. */
    private static void begin(String result) {
        begin(result, 24);
    }

    private static void begin(String result, int mostStack) {
        maker = new ClassMaker();
        for (String type : new String[] {"I", "J", "[I"}) {
            maker.addField("f" + type.charAt(0), type);
        }
        body = new Body(mostStack, 12).label("t0").op(1).op(191).label("t1");
        body.caught("t0", "t1", "t1", 0);
        body.op(58, 4);
        labels = 0;
        type = "(I[IJ)" + result;
    }

    private static String type;
    private static String calledType; // of a second method, if the first one calls one
    private static Body calledBody;

    private static void pushUnit(char unit) {
        switch (unit) {
            case 'I':
                body.op(26);
                break;
            case 'J':
                body.op(32);
                break;
            case 'N':
                body.op(43);
                break;
            case '0':
                body.op(1);
                break;
            case 'E':
                body.op(25, 4);
                break;
            default:
                String zero = "x" + labels++;
                String both = "y" + labels++;
                body.op(26).jump(153, zero).op(1).jump(167, both).label(zero).op(3).label(both);
        }
    }

    private static void pushUnits(String units) {
        for (int n = 0; n < units.length(); n++) {
            pushUnit(units.charAt(n));
        }
    }

    private static void finish(String what, int fault) {
        maker.addMethod("m", type, body);
        if (calledBody != null) {
            maker.addMethod("c", calledType, calledBody);
            calledBody = null;
        }
        byte[] bytes = maker.make();
        if (fault < 0) {
            Due.is(what + ": strays()", 0, Due.loaded(what, bytes).strays());
        } else {
            Due.breaks(what, 100, fault, bytes);
        }
    }

    private static int places(String units) {
        int places = units.length();
        for (int n = 0; n < units.length(); n++) {
            places += units.charAt(n) == 'J' ? 1 : 0;
        }
        return places;
    }

    /** All rows of units that have at least so many places, with none that could be left out below. */
    private static List<String> rows(int places) {
        List<String> rows = new ArrayList<>();
        if (places <= 0) {
            rows.add("");
            return rows;
        }
        for (int n = 0; n < UNITS.length(); n++) {
            char unit = UNITS.charAt(n);
            for (String below : rows(places - (unit == 'J' ? 2 : 1))) {
                rows.add(below + unit);
            }
        }
        return rows;
    }

    private static boolean fits(char wanted, char unit) {
        switch (wanted) {
            case 'N':
                return unit == 'N' || unit == '0';
            case 'E':
                return unit == 'E' || unit == '0';
            case 'A':
                return unit == 'N' || unit == 'E' || unit == '0';
            default:
                return unit == wanted;
        }
    }

    private static boolean fits(String wanted, String units) {
        if (wanted.length() != units.length()) {
            return false;
        }
        for (int n = 0; n < wanted.length(); n++) {
            if (!fits(wanted.charAt(n), units.charAt(n))) {
                return false;
            }
        }
        return true;
    }

    private static final String[] TAKERS = {
        "46 NI I", "54 I -", "55 J -", "58 A -", "79 NII -", "96 II I", "97 JJ J", "100 II I", "101 JJ J", "104 II I",
        "105 JJ J", "108 II I", "109 JJ J", "112 II I", "113 JJ J", "116 I I", "117 J J", "120 II I", "121 JI J",
        "122 II I", "123 JI J", "124 II I", "125 JI J", "126 II I", "127 JJ J", "128 II I", "129 JJ J", "130 II I",
        "131 JJ J", "133 I J", "136 J I", "145 I I", "146 I I", "147 I I", "148 JJ I", "153 I -", "154 I -", "155 I -",
        "156 I -", "157 I -", "158 I -", "159 II -", "160 II -", "161 II -", "162 II -", "163 II -", "164 II -",
        "165 AA -", "166 AA -", "170 I -", "171 I -", "178 - I", "1178 - J", "2178 - N", "179 I -", "1179 J -", "2179 N -",
        "184 INJ N", "1184 - J", "188 I N", "190 N I", "191 E -", "198 A -", "199 A -", "0 - -", "1 - 0", "2 - I", "8 - I",
        "9 - J", "10 - J", "16 - I", "17 - I", "18 - I", "19 - I", "20 - J", "21 - I", "22 - J", "25 - N", "26 - I",
        "32 - J", "43 - N", "59 I -", "63 J -", "75 A -",
    };

    private static void instructionsTakeTheirTypes() {
        for (String taker : TAKERS) {
            String[] parts = taker.split(" ");
            int op = Integer.parseInt(parts[0]);
            String wanted = parts[1].replace("-", "");
            String given = parts[2].replace("-", "");
            for (String units : rows(places(wanted))) {
                begin("V");
                pushUnits(units);
                int at = body.instructions();
                put(op);
                body.op(177);
                finish(taker + " of " + units, fits(wanted, units) ? -1 : at);
            }
            tooFew(taker, op, wanted);
            if (op != 191) {
                gives(taker, op, wanted, given);
            }
        }
    }

    private static void put(int op) {
        body.label("here");
        switch (op) {
            case 16:
                body.op(16, 3);
                break;
            case 18:
                body.op(18, maker.number(5));
                break;
            case 17:
                body.two(17, 3);
                break;
            case 19:
                body.two(19, maker.number(5));
                break;
            case 20:
                body.two(20, maker.number(5L));
                break;
            case 21:
                body.op(21, 0);
                break;
            case 22:
                body.op(22, 2);
                break;
            case 25:
                body.op(25, 1);
                break;
            case 54:
            case 55:
            case 58:
                body.op(op, 6);
                break;
            case 170:
                body.table(0, "next", "next").label("next");
                break;
            case 171:
                body.lookup("next", new int[0]).label("next");
                break;
            case 188:
                body.op(188, 10);
                break;
            default:
                if (op >= 153 && op <= 166 || op == 198 || op == 199) {
                    body.jump(op, "next").label("next");
                } else if (op % 1000 >= 178 && op % 1000 <= 184) {
                    putMember(op);
                } else {
                    body.op(op);
                }
        }
    }

    private static void putMember(int op) {
        String[] types = {"I", "J", "[I"};
        if (op % 1000 == 184) {
            String called = op > 1000 ? "()J" : "(I[IJ)[I";
            Body callee = op > 1000 ? new Body(2, 0).put(9, 173) : new Body(1, 4).put(43, 176);
            calledType = called;
            calledBody = callee;
            body.two(184, maker.method("c", called));
            return;
        }
        String member = types[op / 1000];
        body.two(op % 1000, maker.field("f" + member.charAt(0), member));
    }

    /** With all but its lowest place there. */
    private static void tooFew(String taker, int op, String wanted) {
        if (wanted.isEmpty()) {
            return;
        }
        begin("V");
        for (int n = 0; n < places(wanted) - 1; n++) {
            body.op(3);
        }
        int at = body.instructions();
        put(op);
        body.op(177);
        finish(taker + " has too few", at);
    }

    private static boolean accepts(int probe, char unit) {
        switch (probe) {
            case 145:
                return unit == 'I';
            case 136:
                return unit == 'J';
            case 190:
                return unit == 'N' || unit == '0';
            default:
                return unit == 'E' || unit == '0';
        }
    }

    private static void gives(String taker, int op, String wanted, String given) {
        for (int probe : new int[] {145, 136, 190, 191}) {
            begin("V");
            body.op(3).op(3);
            pushUnits(wanted.replace('A', 'N'));
            put(op);
            int at = body.instructions();
            body.op(probe).op(177);
            boolean right = given.isEmpty() ? probe == 145 : accepts(probe, given.charAt(0));
            finish(taker + " gives " + given + " to " + probe, right ? -1 : at);
        }
    }

    private static void shufflesTakeTheirTypes() {
        for (int op : new int[] {87, 88, 89, 90, 92, 95}) {
            int wanted = op == 87 || op == 89 ? 1 : 2;
            for (String units : rows(wanted)) {
                boolean single = units.length() == wanted && units.indexOf('J') < 0 && units.indexOf('X') < 0;
                boolean right = single || (op == 88 || op == 92) && units.equals("J");
                begin("V");
                body.op(26);
                pushUnits(units);
                int at = body.instructions();
                body.op(op).op(177);
                finish(op + " of " + units, right ? -1 : at);
                if (right) {
                    shuffled(op, units);
                }
            }
        }
    }

    private static String after(int op, String units) {
        String x = units.substring(0, units.length() - 1);
        String y = units.substring(units.length() - 1);
        switch (op) {
            case 87:
            case 88:
                return "";
            case 89:
                return y + y;
            case 90:
                return y + x + y;
            case 92:
                return units + units;
            default:
                return y + x;
        }
    }

    /** Looks at each unit that comes on the stack, from the top, and at the one below them all. */
    private static void shuffled(int op, String units) {
        String all = "J" + after(op, units);
        for (int deep = 0; deep < all.length(); deep++) {
            for (int probe : new int[] {145, 136, 190, 191}) {
                begin("V");
                pushUnits("J" + units);
                body.op(op);
                for (int n = 0; n < deep; n++) {
                    body.op(all.charAt(all.length() - 1 - n) == 'J' ? 88 : 87);
                }
                int at = body.instructions();
                body.op(probe).op(177);
                boolean right = accepts(probe, all.charAt(all.length() - 1 - deep));
                finish(op + " of " + units + ", " + deep + " deep to " + probe, right ? -1 : at);
            }
        }
    }

    private static void localsAreLoadedByTheirTypes() {
        String kinds = "INJHEX";
        for (int local = 0; local < 6; local++) {
            for (int op : new int[] {21, 22, 25, 132}) {
                begin("V");
                int at = body.instructions();
                body.op(op == 132 ? new int[] {op, local, 1} : new int[] {op, local}).op(177);
                char kind = kinds.charAt(local);
                boolean right = op == 25 ? kind == 'N' || kind == 'E' : op == 22 ? kind == 'J' : kind == 'I';
                finish(op + " of local " + local, right ? -1 : at);
            }
        }
        begin("V");
        body.op(1).op(58, 5).op(25, 5).op(190).op(87).op(25, 5).op(191);
        finish("a null from a local", -1);
        begin("V");
        body.op(25, 4).op(191);
        finish("an error from a local", -1);
        begin("V");
        body.op(25, 4).op(190).op(177);
        finish("the length of an error", body.instructions() - 2);
        begin("V");
        body.op(43).op(191);
        finish("throwing ints", body.instructions() - 1);
    }

    private static void returnsAreAsTheMethodsType() {
        String[] results = {"I", "J", "[I", "V"};
        int[] returns = {172, 173, 176, 177};
        for (String result : results) {
            for (int r = 0; r < returns.length; r++) {
                for (char unit : UNITS.toCharArray()) {
                    begin(result);
                    pushUnit(unit);
                    int at = body.instructions();
                    body.op(returns[r]);
                    boolean right = results[r].equals(result) && (r == 3 || fits("IJN".charAt(r), unit));
                    finish(returns[r] + " of " + unit + " in " + result, right ? -1 : at);
                }
            }
        }
    }

    /** Stores at all places about a long at 6 and 7: it is whole if none of its places was stored to. */
    private static void storesBreakHalves() {
        for (int op : new int[] {54, 55, 58}) {
            for (int local = 4; local <= 9; local++) {
                begin("V");
                body.op(9).op(55, 6);
                pushUnit(op == 54 ? 'I' : op == 55 ? 'J' : 'N');
                body.op(op, local);
                int at = body.instructions();
                body.op(22, 6).op(177);
                int last = op == 55 ? local + 1 : local;
                boolean whole = last < 6 || local > 7 || op == 55 && local == 6;
                finish("store " + op + " to " + local, whole ? -1 : at);
                for (int other : new int[] {6, 7}) {
                    halfIsNothing(op, local, other);
                }
            }
        }
    }

    /** A half that was left is of no type, so that a long stored behind or before it does not become whole with it. */
    private static void halfIsNothing(int op, int local, int other) {
        begin("V");
        body.op(9).op(55, 6);
        pushUnit(op == 54 ? 'I' : op == 55 ? 'J' : 'N');
        body.op(op, local);
        int at = body.instructions();
        body.op(22, other).op(177);
        boolean right = op == 55 && local == other || other == 6 && local > 7 || other == 6 && local + (op == 55 ? 1 : 0) < 6;
        finish("store " + op + " to " + local + ", load " + other, right ? -1 : at);
    }

    private static void growLeavesTheType() {
        begin("V");
        int at = body.instructions();
        body.label("again").op(132, 1, 1).op(43).op(190).op(87).jump(167, "again");
        finish("ints don't grow", at);
        begin("V");
        body.op(132, 0, 1).op(26).op(87).op(32).op(88).op(177);
        finish("an int grows", -1);
        begin("V");
        body.op(196, 132, 0, 0, 1, 1).op(26).op(87).op(177);
        finish("an int grows far", -1);
    }

    private static void waysJoin() {
        for (char left : UNITS.toCharArray()) {
            for (char right : UNITS.toCharArray()) {
                for (int probe : new int[] {145, 136, 190, 191}) {
                    joined(left, right, probe, false);
                    if (left != 'X' && right != 'X') {
                        joined(left, right, probe, true);
                    }
                }
            }
        }
    }

    private static char join(char left, char right) {
        if (left == right || right == '0' && (left == 'N' || left == 'E')) {
            return left;
        }
        return left == '0' && (right == 'N' || right == 'E') ? right : 'X';
    }

    /** Two ways with a unit each come together, on the stack or in a local. */
    private static void joined(char left, char right, int probe, boolean inLocal) {
        if (!inLocal && (left == 'J') != (right == 'J')) {
            return;
        }
        begin("V");
        body.op(26).jump(153, "other");
        pushUnit(left);
        if (inLocal) {
            store(left);
        }
        body.jump(167, "both").label("other");
        pushUnit(right);
        if (inLocal) {
            store(right);
        }
        body.label("both");
        int at = body.instructions();
        char both = join(left, right);
        boolean fits = accepts(probe, both);
        if (inLocal) {
            body.op(probe == 145 ? 21 : probe == 136 ? 22 : 25, 6);
            boolean loads = probe == 145 ? both == 'I' : probe == 136 ? both == 'J' : "N0E".indexOf(both) >= 0;
            at += loads ? 1 : 0;
        }
        body.op(probe).op(177);
        finish(left + " and " + right + " to " + probe + (inLocal ? " in a local" : ""), fits ? -1 : at);
    }

    /** At local 6 one way leaves the upper half of a long (H), the lower one (J) or something else. */
    private static void halvesJoin() {
        String kinds = "HJIN0EX";
        for (char left : kinds.toCharArray()) {
            for (char right : kinds.toCharArray()) {
                boolean references = "N0E".indexOf(left) >= 0 && "N0E".indexOf(right) >= 0;
                halves(left, right, "an int", left == 'I' && right == 'I', 21, 6);
                halves(left, right, "a long", left == 'J' && right == 'J', 22, 6);
                halves(left, right, "a long before", left == 'H' && right == 'H', 22, 5);
                halves(left, right, "a reference", references && join(left, right) != 'X', 25, 6);
                halves(left, right, "growing", left == 'I' && right == 'I', 132, 6);
            }
        }
    }

    private static void halves(char left, char right, String what, boolean fits, int op, int local) {
        begin("V");
        body.op(26).jump(153, "other");
        putAtSix(left);
        body.jump(167, "both").label("other");
        putAtSix(right);
        body.label("both");
        int at = body.instructions();
        body.op(op == 132 ? new int[] {op, local, 1} : new int[] {op, local}).op(177);
        finish(what + " of " + left + " and " + right, fits ? -1 : at);
    }

    private static void putAtSix(char unit) {
        if (unit == 'H') {
            body.op(32).op(55, 5);
        } else if (unit != 'X') {
            pushUnit(unit);
            store(unit);
        }
    }

    private static void store(char unit) {
        body.op(unit == 'I' ? 54 : unit == 'J' ? 55 : 58, 6);
    }

    private static void catchesGetTheLocalsBefore() {
        // The store is caught: at the handler its local is as before it, and as after it if more is caught.
        begin("V");
        body.op(3).op(54, 6).op(1).label("f").op(58, 6).label("t").op(177);
        body.label("h").op(87).op(21, 6).op(87).op(177).caught("f", "t", "h", 0);
        finish("an int before the store", -1);
        begin("V");
        body.op(3).op(54, 6).op(1).label("f").op(58, 6).op(0).label("t").op(177);
        int at = body.instructions() + 1;
        body.label("h").op(87).op(21, 6).op(87).op(177).caught("f", "t", "h", 0);
        finish("int and null after it", at);
        begin("V");
        body.label("f").op(0).label("t").op(177).label("h").op(191).caught("f", "t", "h", 0);
        finish("an error comes on the stack", -1);
        begin("V");
        body.label("f").op(0).label("t").op(177).label("h").op(190).op(177).caught("f", "t", "h", 0);
        finish("no ints come on the stack", body.instructions() - 2);
    }

    /** Both catches of an instruction are come to, though a run goes to the first alone; what no catch has comes to none. */
    private static void eachCatchIsComeTo() {
        begin("V");
        body.label("f").op(0).label("t").op(177).label("h").op(191).label("i").op(87).op(177);
        body.caught("f", "t", "h", 0).caught("f", "t", "i", 0);
        finish("both handlers", -1);
        begin("V");
        body.label("f").op(0).label("t").op(177).label("h").op(191);
        int at = body.instructions();
        body.label("i").op(190).op(177).caught("f", "t", "h", 0).caught("f", "t", "i", 0);
        finish("the second handler takes ints", at);
        Body none = new Body(1, 0).op(177).label("f").op(0).label("t").op(177).label("h").op(190).op(87).op(177);
        CodeMachine x = Due.loaded("nothing comes", ClassMaker.of("()V", none.caught("f", "t", "h", 0)));
        for (int i = 0; i < 6; i++) {
            Due.is("height(0, " + i + ")", i == 0 ? 0 : -1, x.height(0, i));
        }
        // The catch has its first instruction, and not the one at its end.
        Body edge = new Body(1, 1).op(1).op(75).label("f").op(3).label("t").op(59).op(177).label("h").op(87).op(42).op(191);
        Due.loaded("before the store at the end", ClassMaker.of("()V", edge.caught("f", "t", "h", 0)));
        Body more = new Body(1, 1).op(1).op(75).label("f").op(3).op(59).label("t").op(177).label("h").op(87).op(42).op(191);
        Due.loaded("what comes is from before the store", ClassMaker.of("()V", more.caught("f", "t", "h", 0)));
        Body most = new Body(1, 1).op(1).op(75).label("f").op(3).op(59).op(177).label("t").label("h").op(87).op(42).op(191);
        Due.breaks("and from behind it", 100, 6, ClassMaker.of("()V", most.caught("f", "t", "h", 0)).make());
    }

    /** The second time another type comes to the handler, or to the loop: what is behind it is looked at once more. */
    private static void whatComesLaterGoesOnToo() {
        for (boolean again : new boolean[] {false, true}) {
            Body caught = new Body(1, 1).op(3).op(59).label("f").op(0).label("t").op(177).label("h").op(87).jump(167, "x")
                .label("x").op(26).op(87).op(again ? 1 : 3).op(again ? 75 : 59).label("g").op(0).label("u").op(177)
                .caught("f", "t", "h", 0).caught("g", "u", "h", 0);
            Body loop = new Body(1, 1).op(3).op(59).label("h").op(0).jump(167, "x")
                .label("x").op(26).op(87).op(again ? 1 : 3).op(again ? 75 : 59).jump(167, "h");
            if (again) {
                Due.breaks("behind the handler", 100, 6, ClassMaker.of("()V", caught).make());
                Due.breaks("in the loop", 100, 4, ClassMaker.of("()V", loop).make());
            } else {
                Due.loaded("behind the handler", ClassMaker.of("()V", caught));
                Due.loaded("in the loop", ClassMaker.of("()V", loop));
            }
        }
    }

    private static ClassMaker small(int mostStack, int... code) {
        return ClassMaker.of("()V", new Body(mostStack, 2).put(code));
    }

    private static void tooFewAndTooMany() {
        Due.breaks("one too many", 100, 1, small(1, 3, 3, 177).make());
        Due.loaded("as many as may be", small(2, 3, 3, 177));
        Due.breaks("a long on one place", 100, 0, small(1, 9, 177).make());
        Due.breaks("dup two", 100, 2, small(3, 3, 3, 92, 177).make());
        Due.breaks("pop of none", 100, 1, small(3, 0, 87, 177).make());
        Due.breaks("pop two of one", 100, 1, small(3, 3, 88, 177).make());
        Due.breaks("nothing may be on the stack", 100, 0, small(0, 3, 177).make());
        Due.breaks("a catch wants a place", 100, 0,
            ClassMaker.of("()V", new Body(0, 0).label("f").put(177).label("h").put(177).caught("f", "h", "h", 0)).make());
        Due.loaded("a catch of what is not come to wants none",
            ClassMaker.of("()V", new Body(0, 0).put(177).label("f").put(177).label("h").put(177).caught("f", "h", "h", 0)));
        Due.loaded("two come, two go", small(2, 3, 3, 95, 88, 177));
    }

    /** What leaves more places than it found is a fault if MOST STACK is one place lower. */
    private static void stacksAreAsHighAsTold() {
        for (String taker : TAKERS) {
            String[] parts = taker.split(" ");
            String wanted = parts[1].replace("-", "").replace('A', 'N');
            highest(taker, Integer.parseInt(parts[0]), wanted, places(parts[2].replace("-", "")) - places(wanted));
        }
        for (int op : new int[] {89, 90, 92}) {
            highest("" + op, op, op == 89 ? "I" : "II", op == 92 ? 2 : 1);
        }
        highest("92 of a long", 92, "J", 2);
        int[] code = new int[50];
        for (int n = 0; n < 24; n++) {
            code[n] = 3;
            code[25 + n] = 87;
        }
        code[49] = 177;
        CodeMachine x = Due.loaded("24 places", small(24, code));
        Due.is("height()", 24, x.height(0, 24));
        Due.is("height()", 24, x.height(0, 25));
        Due.is("height()", 1, x.height(0, 48));
        int[] faulty = code.clone();
        faulty[24] = 3;
        Due.breaks("25 places", 100, 24, small(24, faulty).make());
        faulty[24] = 116;
        faulty[26] = 117;
        Due.breaks("types of 24 places", 100, 26, small(24, faulty).make());
        faulty[26] = 87;
        faulty[49] = 87;
        Due.breaks("a fault behind 24 places", 100, 49, small(24, faulty).make());
    }

    private static void highest(String what, int op, String units, int more) {
        if (more <= 0) {
            return;
        }
        for (int missing = 0; missing < 2; missing++) {
            begin("V", places(units) + 1 + more - missing);
            body.op(3);
            pushUnits(units);
            int at = body.instructions();
            put(op);
            body.op(177);
            finish(what + " with " + missing + " missing", missing == 0 ? -1 : at);
        }
    }

    private static void shufflesHaveTooFew() {
        for (int op : new int[] {87, 88, 89, 90, 92, 95}) {
            int wanted = op == 87 || op == 89 ? 1 : 2;
            for (int places = 0; places <= 3; places++) {
                begin("V");
                for (int n = 0; n < places; n++) {
                    body.op(3);
                }
                int at = body.instructions();
                body.op(op).op(177);
                finish(op + " with " + places + " places", places >= wanted ? -1 : at);
            }
        }
    }

    private static void heightsDiffer() {
        begin("V");
        body.op(26).jump(153, "a").op(3).label("a");
        int at = body.instructions();
        body.op(177);
        finish("two heights", at);
        begin("V");
        body.label("a");
        at = body.instructions();
        body.op(3).jump(167, "a");
        finish("a stack that grows", at);
        begin("V");
        at = body.instructions();
        body.label("f").op(0).op(87).label("t").op(177).caught("f", "t", "f", 0);
        finish("a catch with another height", at);
    }

    private static void theLastDoesNotGoOn() {
        Due.breaks("nop", 100, 0, small(1, 0).make());
        Due.breaks("push", 100, 1, small(1, 0, 3).make());
        Due.breaks("if", 100, 1, small(1, 3, 153, 255, 255).make());
        Due.loaded("goto", small(1, 0, 167, 255, 255));
        Due.loaded("throw", small(1, 1, 191));
        Due.loaded("what is not come to", small(1, 177, 0));
        Due.loaded("table", ClassMaker.of("()V", new Body(1, 0).label("a").op(3).table(1, "a", "a", "a")));
        Due.loaded("lookup", ClassMaker.of("()V", new Body(1, 0).label("a").op(3).lookup("a", new int[] {5}, "a")));
    }

    /** The same row ends with the instruction, or with a return behind it: what goes on must not be the last. */
    private static void everyLastInstruction() {
        for (String taker : TAKERS) {
            String[] parts = taker.split(" ");
            int op = Integer.parseInt(parts[0]);
            boolean jumps = op >= 153 && op <= 166 || op == 170 || op == 171 || op == 198 || op == 199;
            if (jumps) {
                continue;
            }
            for (boolean last : new boolean[] {true, false}) {
                begin("V");
                pushUnits(parts[1].replace("-", "").replace('A', 'N').replace('E', '0'));
                int at = body.instructions();
                put(op);
                if (!last) {
                    body.op(177);
                }
                finish(taker + (last ? " is the last" : " is not the last"), last && op != 191 ? at : -1);
            }
        }
        for (int op : new int[] {153, 154, 155, 156, 157, 158, 159, 160, 161, 162, 163, 164, 165, 166, 198, 199}) {
            begin("V");
            String units = op < 159 ? "I" : op < 165 ? "II" : op < 167 ? "NN" : "N";
            body.label("again");
            pushUnits(units);
            int at = body.instructions();
            body.jump(op, "again");
            finish("jump " + op + " is the last", at);
        }
    }

    /** The handler at 10 has too few, or two heights; types that went through it would make 1 faulty. */
    private static void faultsOfHeightStopTypesInCatches() {
        Body few = new Body(2, 1).jump(167, "b").label("a").op(26).op(87).op(177)
            .label("b").op(1).op(75).label("f").op(0).label("t").op(3).op(59).jump(167, "a")
            .label("h").jump(159, "a").op(177).caught("f", "t", "h", 0);
        Due.breaks("a handler that has too few", 100, 10, ClassMaker.of("()V", few).make());
        Body two = new Body(2, 1).jump(167, "b").label("a").op(26).op(87).op(177)
            .label("b").op(1).op(75).label("f").op(0).label("t").op(3).op(59).op(3).jump(153, "h").jump(167, "a")
            .label("h").jump(167, "a").caught("f", "t", "h", 0);
        // Each height goes on from the handler by itself, so that 1 is come to with two heights as well.
        Due.breaks("a handler with two heights", 100, 1, ClassMaker.of("()V", two).make());
        Body apart = new Body(2, 1).jump(167, "b").label("a").op(26).op(87).op(177)
            .label("b").op(1).op(75).label("f").op(0).label("t").op(3).op(59).op(3).jump(153, "h").jump(167, "a")
            .label("h").jump(153, "a").op(177).caught("f", "t", "h", 0);
        Due.breaks("a handler with too few by one of two heights", 100, 12, ClassMaker.of("()V", apart).make());
    }

    private static void faultsOfHeightStopTypes() {
        // The fault of height is at 6; were it gone through, the return at 2 would be come to with a null.
        Body last = new Body(2, 1).jump(167, "b").label("a").op(26).op(87).op(177).label("b").op(1).op(75).op(3).jump(153, "a");
        Due.breaks("the last one goes nowhere, not to its target either", 100, 7, ClassMaker.of("()V", last).make());
        // Here types would make instruction 1 faulty if they went through instruction 7, which has a fault of height.
        Body few = new Body(1, 1).jump(167, "b").label("a").op(21, 0).op(87).op(177)
            .label("b").op(1).op(75).op(3).op(3).jump(167, "a");
        Due.breaks("too many go nowhere", 100, 7, ClassMaker.of("()V", few).make());
        // Heights themselves are told first in the order of instructions, not of their finding.
        Body two = new Body(2, 1).jump(167, "b").label("a").op(87).op(177).label("b").op(87).jump(167, "a");
        Due.breaks("too few go nowhere", 100, 3, ClassMaker.of("()V", two).make());
        // A height that differs stops types, but heights go on from it, each by itself.
        Body differs = new Body(3, 1).jump(167, "b").label("a").op(87).op(177)
            .label("b").op(3).op(3).jump(153, "c").op(3).label("c").jump(167, "a");
        Due.breaks("each height spreads by itself", 100, 1, ClassMaker.of("()V", differs).make());
    }

    private static void theFirstFaultIsTold() {
        ClassMaker two = new ClassMaker();
        two.addMethod("m", "()V", new Body(1, 0).op(0).op(177));
        two.addMethod("n", "()I", new Body(1, 0).op(0).op(0).op(177));
        Due.breaks("the second method", 100, 2002, two.make());
        two.addMethod("o", "()V", new Body(1, 0).op(87).op(177));
        Due.breaks("the second, not the third", 100, 2002, two.make());
        ClassMaker many = new ClassMaker();
        for (int m = 0; m < 23; m++) {
            many.addMethod("m" + m, "()V", new Body(1, 0).op(177));
        }
        Body late = new Body(1, 0);
        for (int i = 0; i < 300; i++) {
            late.op(0);
        }
        many.addMethod("late", "()V", late.op(87).op(177));
        Due.breaks("method 23", 100, 23 * 2000 + 300, many.make());
        Body types = new Body(2, 1).op(26).op(1).op(96).op(87).op(177);
        Due.breaks("types before heights", 100, 0, ClassMaker.of("()V", types).make());
        Body back = new Body(2, 1).jump(167, "b").label("a").op(26).op(177).label("b").op(1).op(190).op(191);
        Due.breaks("what is not come to has no fault", 100, 5, ClassMaker.of("()V", back).make());
    }

    private static void badTypesAreNotCopied() {
        // An error at a later instruction; what it copies goes back to an earlier one, which takes it or not.
        copied("dup", false, new Body(4, 3).jump(167, "b").label("a").op(136).op(177).label("b").op(9).op(89).jump(167, "c")
            .label("d").op(88).jump(167, "a").label("c").op(87).jump(167, "a"));
        copied("aload of an int leaves an int", true, new Body(4, 3).jump(167, "b").label("a").op(145).op(177)
            .label("b").op(3).op(59).op(42).jump(167, "a"));
        copied("aload of a half leaves nothing", false, new Body(4, 3).jump(167, "b").label("a").op(191).op(177)
            .label("b").op(9).op(63).op(42).jump(167, "a"));
        copied("iload gives an int whatever it loads", true, new Body(4, 3).jump(167, "b").label("a").op(145).op(177)
            .label("b").op(9).op(63).op(26).jump(167, "a"));
    }

    /** The first fault is at the instruction that copies, or at instruction 1 that takes the copy. */
    private static void copied(String what, boolean copies, Body code) {
        CodeMachine x = new CodeMachine();
        Due.feed(x, ClassMaker.of("()V", code).make());
        Due.is(what + ": load()", 100, x.load());
        Due.is(what + ": place() is 1", !copies, x.place() == 1);
    }

    /**
     * A shuffle that takes what it must not goes back to two pops, which are earlier: the first of them is told if the
     * top that was left is of no type, the second one if what lies below is, and else the shuffle itself.
     */
    private static void badShufflesCopyNothing() {
        for (int op : new int[] {87, 88, 89, 90, 92, 95}) {
            int wanted = op == 87 || op == 89 ? 1 : 2;
            for (String units : rows(wanted)) {
                boolean single = units.length() == wanted && units.indexOf('J') < 0 && units.indexOf('X') < 0;
                if (single || (op == 88 || op == 92) && units.equals("J")) {
                    continue;
                }
                begin("V");
                body.jump(167, "main").label("pops");
                int pops = body.instructions();
                body.op(87).op(87).op(177).label("main").op(3).op(3);
                pushUnits(units);
                int at = body.instructions();
                body.op(op);
                String left = "II" + leftOf(op, units.replace("J", "LH"));
                int top = left.length() - 1;
                body.jump(167, "pops");
                boolean topFits = "XLH".indexOf(left.charAt(top)) < 0;
                boolean lowerFits = "XLH".indexOf(left.charAt(top - 1)) < 0;
                finish(op + " of bad " + units, !topFits ? pops : !lowerFits ? pops + 1 : at);
            }
        }
    }

    /** The places that a shuffle leaves, with X for all that it does not copy. */
    private static String leftOf(int op, String places) {
        int taken = op == 87 || op == 89 ? 1 : 2;
        String below = places.substring(0, places.length() - taken);
        String copied = places.substring(places.length() - taken).replace('L', 'X').replace('H', 'X');
        switch (op) {
            case 87:
            case 88:
                return below;
            case 89:
            case 92:
                return below + copied + copied;
            case 90:
                return below + copied.charAt(1) + copied;
            default:
                return below + copied.charAt(1) + copied.charAt(0);
        }
    }

    /** What was given goes back to an earlier instruction that looks at its type: it is as told, though the taking is a fault. */
    private static void resultsHaveTheirTypesWhateverWasTaken() {
        for (String taker : TAKERS) {
            String[] parts = taker.split(" ");
            String wanted = parts[1].replace("-", "");
            String given = parts[2].replace("-", "");
            if (wanted.isEmpty() || given.isEmpty()) {
                continue;
            }
            for (int probe : new int[] {145, 136, 190, 191}) {
                begin("V");
                body.jump(167, "main").label("probe");
                int early = body.instructions();
                body.op(probe).op(177).label("main").op(3).op(3);
                pushUnits(wanted.replace("N", "E").replace("I", "0").replace("A", "I").replace("J", "00"));
                int at = body.instructions();
                put(Integer.parseInt(parts[0]));
                body.jump(167, "probe");
                finish(taker + " of wrong types, to " + probe, accepts(probe, given.charAt(0)) ? at : early);
            }
        }
        for (int op : new int[] {21, 22}) {
            for (int probe : new int[] {145, 136}) {
                begin("V");
                body.jump(167, "main").label("probe");
                int early = body.instructions();
                body.op(probe).op(177).label("main").op(3).op(3);
                int at = body.instructions();
                body.op(op, 4).jump(167, "probe");
                finish(op + " of an error, to " + probe, (op == 21) == (probe == 145) ? at : early);
            }
        }
    }

    /** 132 of a local that is no int is a fault, and leaves ints, an error, a long or nothing as it was. */
    private static void growKeepsWhatItFinds() {
        int[][] loads = {{25, 1}, {25, 4}, {22, 2}, {21, 5}};
        int[] grown = {1, 4, 2, 5};
        for (int kind = 0; kind < grown.length; kind++) {
            begin("V");
            body.jump(167, "main").label("load");
            int early = body.instructions();
            body.op(loads[kind]).op(177).label("main");
            int at = body.instructions();
            body.op(132, grown[kind], 1).jump(167, "load");
            finish("grow of local " + grown[kind], kind < 3 ? at : early);
        }
    }

    private static void heightsAreTold() {
        ClassMaker two = new ClassMaker();
        two.addMethod("m", "()V", new Body(0, 0).op(177).op(0));
        two.addMethod("n", "(I)I", new Body(4, 1).op(26).jump(153, "a").op(9).op(9).op(148).op(172)
            .label("h").op(87).label("a").op(8).op(172).caught("a", "b", "h", 0).label("b"));
        CodeMachine x = Due.loaded("heights", two);
        int[][] due = {{0, -1}, {0, 1, 0, 2, 4, 1, 1, 0, 1}};
        for (int m = 0; m < due.length; m++) {
            for (int i = 0; i < due[m].length; i++) {
                Due.is("height(" + m + ", " + i + ")", due[m][i], x.height(m, i));
            }
            Due.is("height() behind", -1, x.height(m, due[m].length));
            Due.is("height() before", -1, x.height(m, -1));
        }
        for (int m : new int[] {-1, 2, Integer.MIN_VALUE, Integer.MAX_VALUE}) {
            Due.is("height() of no method", -1, x.height(m, 0));
        }
        Due.is("height()", -1, x.height(0, Integer.MAX_VALUE));
        Due.is("height()", -1, x.height(1, Integer.MIN_VALUE));
        x.feed(0, 0, 0, 0, 0);
        x.load();
        Due.is("height() after a faulty load()", 4, x.height(1, 4));
    }
}
