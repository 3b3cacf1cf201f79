import java.util.ArrayList;
import java.util.List;
import java.util.Random;

/**
 * Makes methods of nested statements by a seed. They pass the checking, end after a while, and mean the
 * same to any machine for such files, if the names of the errors are those of its own classes.
 */
final class RandomProgram {
    private final Random random;
    private final ClassMaker maker;
    private final String[] errors;
    final String[] fieldTypes;
    final String[] methodTypes;

    private Body body;
    private int own; // the number of the method that is made
    private String result;
    private int labels;
    private int nextLocal;
    private final List<Integer> ints = new ArrayList<>();
    private final List<Integer> longs = new ArrayList<>();
    private final List<Integer> arrays = new ArrayList<>();

    RandomProgram(long seed, String above, String... errors) {
        random = new Random(seed);
        maker = new ClassMaker(above);
        this.errors = errors;
        fieldTypes = new String[1 + random.nextInt(4)];
        for (int k = 0; k < fieldTypes.length; k++) {
            fieldTypes[k] = pick("I", "J", "[I");
            maker.addField("f" + k, fieldTypes[k]);
        }
        methodTypes = new String[1 + random.nextInt(4)];
        for (int m = 0; m < methodTypes.length; m++) {
            String parameters = "";
            for (int n = random.nextInt(4); n > 0; n--) {
                parameters += pick("I", "J", "[I");
            }
            methodTypes[m] = "(" + parameters + ")" + pick("I", "J", "[I", "V");
        }
        for (int m = 0; m < methodTypes.length; m++) {
            makeMethod(m);
        }
    }

    ClassMaker maker() {
        return maker;
    }

    private String pick(String... any) {
        return any[random.nextInt(any.length)];
    }

    private int pick(List<Integer> any) {
        return any.get(random.nextInt(any.size()));
    }

    private boolean chance(int percent) {
        return random.nextInt(100) < percent;
    }

    private String label() {
        return "l" + labels++;
    }

    private int freshLocal(int width) {
        nextLocal += width;
        return nextLocal - width;
    }

    static String letters(String types) {
        return types.replace("[I", "N");
    }

    private void makeMethod(int m) {
        own = m;
        String type = methodTypes[m];
        result = type.substring(type.indexOf(')') + 1);
        body = new Body(24, 24);
        body.filler = 0;
        labels = 0;
        nextLocal = 0;
        ints.clear();
        longs.clear();
        arrays.clear();
        for (char letter : letters(type.substring(1, type.indexOf(')'))).toCharArray()) {
            declare(letter);
        }
        for (String letter : new String[] {"I", "I", "J", "N", pick("I", "J", "N")}) {
            constant(letter.charAt(0));
            store(letter.charAt(0), declare(letter.charAt(0)));
        }
        statements(3, 3 + random.nextInt(5));
        giveBack();
        maker.addMethod("m" + m, type, body);
    }

    private int declare(char letter) {
        int local = freshLocal(letter == 'J' ? 2 : 1);
        (letter == 'I' ? ints : letter == 'J' ? longs : arrays).add(local);
        return local;
    }

    private void giveBack() {
        switch (result) {
            case "I":
                expression('I', 2);
                body.op(172);
                break;
            case "J":
                expression('J', 2);
                body.op(173);
                break;
            case "[I":
                expression('N', 1);
                body.op(176);
                break;
            default:
                body.op(177);
        }
    }

    private void local(int op, int shortOp, int local) {
        if (local < 4 && chance(70)) {
            body.op(shortOp + local);
        } else if (chance(85)) {
            body.op(op, local);
        } else {
            body.op(196, op, 0, local);
        }
    }

    private void load(char letter, int local) {
        local(letter == 'I' ? 21 : letter == 'J' ? 22 : 25, letter == 'I' ? 26 : letter == 'J' ? 30 : 42, local);
    }

    private void store(char letter, int local) {
        local(letter == 'I' ? 54 : letter == 'J' ? 55 : 58, letter == 'I' ? 59 : letter == 'J' ? 63 : 75, local);
    }

    private void constant(char letter) {
        int[] ints = {0, 1, -1, 31, 32, 63, 65535, Integer.MIN_VALUE, Integer.MAX_VALUE, random.nextInt(), random.nextInt(50)};
        int v = ints[random.nextInt(ints.length)];
        if (letter == 'N') {
            if (chance(90)) {
                body.op(4 + random.nextInt(5)).op(188, 10);
            } else {
                body.op(1);
            }
        } else if (letter == 'J') {
            if (chance(30)) {
                body.op(9 + random.nextInt(2));
            } else {
                body.two(20, maker.number(chance(50) ? random.nextLong() : (long) v));
            }
        } else if (chance(40)) {
            body.op(2 + random.nextInt(7));
        } else if (chance(30)) {
            body.op(16, random.nextInt(256));
        } else if (chance(40)) {
            body.two(17, random.nextInt(65536));
        } else {
            int number = maker.number(v);
            if (number < 256 && chance(50)) {
                body.op(18, number);
            } else {
                body.two(19, number);
            }
        }
    }

    private void statements(int depth, int count) {
        for (int n = 0; n < count && body.size() < 800; n++) {
            statement(depth);
        }
    }

    private void statement(int depth) {
        int kind = random.nextInt(depth > 0 ? 15 : 8);
        switch (kind) {
            case 0:
            case 1:
                expression('I', 3);
                store('I', pick(ints));
                break;
            case 2:
                expression('J', 3);
                store('J', pick(longs));
                break;
            case 3:
                expression('N', 2);
                store('N', pick(arrays));
                break;
            case 4:
                grow();
                break;
            case 5:
                putField();
                break;
            case 6:
                expression('N', 1);
                index();
                expression('I', 2);
                body.op(79);
                break;
            case 7:
                callAndDrop();
                break;
            case 8:
            case 9:
                branch(depth);
                break;
            case 10:
                loop(depth);
                break;
            case 11:
            case 12:
                caught(depth);
                break;
            case 13:
                switched(depth);
                break;
            default:
                leave();
        }
    }

    private void grow() {
        int local = pick(ints);
        if (chance(70)) {
            body.op(132, local, random.nextInt(256));
        } else {
            body.op(196, 132, 0, local, random.nextInt(256), random.nextInt(256));
        }
    }

    private int fieldNumber(int k) {
        return maker.field("f" + k, fieldTypes[k]);
    }

    private void putField() {
        int k = random.nextInt(fieldTypes.length);
        expression(letters(fieldTypes[k]).charAt(0), 2);
        body.two(179, fieldNumber(k));
    }

    private void index() {
        expression('I', 1);
        body.op(chance(15) ? 6 : 4).op(126);
    }

    /** Only later methods are called, so that no one runs in itself. */
    private void call(int m) {
        String type = methodTypes[m];
        for (char letter : letters(type.substring(1, type.indexOf(')'))).toCharArray()) {
            expression(letter, 1);
        }
        body.two(184, maker.method("m" + m, type));
    }

    private void callAndDrop() {
        if (own + 1 >= methodTypes.length) {
            return;
        }
        int m = own + 1 + random.nextInt(methodTypes.length - own - 1);
        call(m);
        String type = methodTypes[m];
        if (!type.endsWith("V")) {
            body.op(type.endsWith("J") ? 88 : 87);
        }
    }

    /** Jumps to the label if some condition holds. */
    private void condition(String to) {
        switch (random.nextInt(5)) {
            case 0:
                expression('N', 1);
                expression('N', 1);
                body.jump(165 + random.nextInt(2), to);
                break;
            case 1:
                expression('N', 1);
                body.jump(198 + random.nextInt(2), to);
                break;
            case 2:
                expression('I', 2);
                expression('I', 1);
                body.jump(159 + random.nextInt(6), to);
                break;
            default:
                expression('I', 2);
                body.jump(153 + random.nextInt(6), to);
        }
    }

    private void jump(String to) {
        body.jump(chance(80) ? 167 : 200, to);
    }

    private void branch(int depth) {
        String other = label();
        String end = label();
        condition(other);
        statements(depth - 1, 1 + random.nextInt(3));
        jump(end);
        body.label(other);
        statements(depth - 1, random.nextInt(3));
        body.label(end).op(0);
    }

    private void loop(int depth) {
        if (nextLocal >= 20) {
            return;
        }
        int counter = freshLocal(1);
        String top = label();
        String end = label();
        body.op(4 + random.nextInt(3));
        store('I', counter);
        body.label(top);
        load('I', counter);
        body.jump(158, end);
        statements(depth - 1, 1 + random.nextInt(3));
        body.op(132, counter, 255);
        jump(top);
        body.label(end).op(0);
    }

    private void caught(int depth) {
        String from = label();
        String to = label();
        String at = label();
        String end = label();
        int wanted = random.nextInt(6);
        body.label(from).op(0);
        statements(depth - 1, 1 + random.nextInt(4));
        body.label(to);
        jump(end);
        body.label(at);
        if (nextLocal < 22 && chance(50)) {
            int error = freshLocal(1);
            local(58, 75, error);
            statements(depth - 1, 1 + random.nextInt(2));
            if (chance(20)) {
                String on = label();
                condition(on);
                local(25, 42, error);
                body.op(191).label(on).op(0);
            }
        } else {
            body.op(87);
        }
        statements(depth - 1, random.nextInt(2));
        body.label(end).op(0);
        body.caught(from, to, at, wanted > 3 ? 0 : maker.type(errors[wanted]));
    }

    private void switched(int depth) {
        int count = 1 + random.nextInt(3);
        String[] targets = new String[count];
        for (int n = 0; n < count; n++) {
            targets[n] = label();
        }
        String other = label();
        String end = label();
        expression('I', 1);
        if (chance(60)) {
            body.op(6).op(126);
        }
        if (chance(50)) {
            body.table(random.nextInt(3) - 1, other, targets);
        } else {
            int[] numbers = new int[count];
            for (int n = 0; n < count; n++) {
                numbers[n] = n == 0 ? random.nextInt(3) - 1 : numbers[n - 1] + 1 + random.nextInt(2);
            }
            body.lookup(other, numbers, targets);
        }
        for (String target : targets) {
            body.label(target);
            statements(depth - 1, random.nextInt(2));
            if (chance(70)) {
                jump(end);
            }
        }
        body.label(other);
        statements(depth - 1, random.nextInt(2));
        body.label(end).op(0);
    }

    /** Returns or throws, if a condition holds. */
    private void leave() {
        String on = label();
        condition(on);
        if (chance(70)) {
            giveBack();
        } else {
            body.op(1).op(191);
        }
        body.label(on).op(0);
    }

    private void expression(char letter, int depth) {
        if (letter == 'N') {
            arrayExpression(depth);
        } else if (letter == 'J') {
            longExpression(depth);
        } else {
            intExpression(depth);
        }
    }

    private boolean fieldOrCall(String type, int depth) {
        if (chance(50)) {
            for (int k = 0; k < fieldTypes.length; k++) {
                if (fieldTypes[k].equals(type)) {
                    body.two(178, fieldNumber(k));
                    return true;
                }
            }
        }
        for (int m = own + 1; depth > 0 && m < methodTypes.length; m++) {
            if (methodTypes[m].endsWith(")" + type)) {
                call(m);
                return true;
            }
        }
        return false;
    }

    private void arrayExpression(int depth) {
        int kind = random.nextInt(depth > 0 ? 8 : 4);
        if (kind == 7 && fieldOrCall("[I", depth)) {
            return;
        }
        if (kind >= 4 && depth > 0) {
            expression('I', depth - 1);
            body.op(16, 15).op(126).op(chance(15) ? 4 : 3).op(100).op(188, 10);
        } else if (kind == 3 && chance(20)) {
            body.op(1);
        } else {
            load('N', pick(arrays));
        }
    }

    private void longExpression(int depth) {
        int kind = random.nextInt(depth > 0 ? 10 : 3);
        if (kind == 3 && fieldOrCall("J", depth)) {
            return;
        }
        if (kind == 0) {
            constant('J');
        } else if (kind <= 3) {
            load('J', pick(longs));
        } else if (kind == 4) {
            expression('I', depth - 1);
            body.op(133);
        } else if (kind == 5) {
            expression('J', depth - 1);
            body.op(117);
        } else if (kind == 6) {
            expression('J', depth - 1);
            expression('I', depth - 1);
            body.op(121 + 2 * random.nextInt(3));
        } else if (kind == 7) {
            expression('J', depth - 1);
            body.op(92).op(new int[] {97, 101, 105, 127, 129, 131}[random.nextInt(6)]);
        } else {
            expression('J', depth - 1);
            expression('J', depth - 1);
            body.op(new int[] {97, 101, 105, 109, 113, 127, 129, 131}[random.nextInt(8)]);
        }
    }

    private void intExpression(int depth) {
        int kind = random.nextInt(depth > 0 ? 15 : 3);
        if (kind == 3 && fieldOrCall("I", depth)) {
            return;
        }
        switch (kind) {
            case 0:
                constant('I');
                break;
            case 1:
            case 2:
            case 3:
                load('I', pick(ints));
                break;
            case 4:
                expression('J', depth - 1);
                body.op(136);
                break;
            case 5:
                expression('I', depth - 1);
                body.op(new int[] {116, 145, 146, 147}[random.nextInt(4)]);
                break;
            case 6:
                expression('J', depth - 1);
                expression('J', depth - 1);
                body.op(148);
                break;
            case 7:
                expression('N', depth - 1);
                index();
                body.op(46);
                break;
            case 8:
                expression('N', depth - 1);
                body.op(190);
                break;
            case 9:
                shuffled(depth);
                break;
            default:
                expression('I', depth - 1);
                expression('I', depth - 1);
                body.op(new int[] {96, 100, 104, 108, 112, 120, 122, 124, 126, 128, 130}[random.nextInt(11)]);
        }
    }

    private void shuffled(int depth) {
        expression('I', depth - 1);
        switch (random.nextInt(7)) {
            case 0:
                body.op(89).op(104);
                break;
            case 1:
                expression('I', depth - 1);
                body.op(95).op(100);
                break;
            case 2:
                expression('I', depth - 1);
                body.op(90).op(100).op(104);
                break;
            case 3:
                expression('I', depth - 1);
                body.op(92).op(100).op(130).op(96);
                break;
            case 4:
                expression('N', depth - 1);
                body.op(95).op(87).op(190);
                break;
            case 5:
                expression('J', depth - 1);
                body.op(88);
                break;
            default:
                expression('N', depth - 1);
                body.op(89).op(88);
        }
    }
}
