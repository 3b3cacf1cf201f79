import java.util.Arrays;

/**
 * Loads class files of static methods by rules of layout, checks the types of all that lies in
 * locals and on the stack, and runs them by steps. What each call answers is said, promise by
 * promise, in the document (DOC.md); README.md tells how the parts of this file work together.
 */
public final class CodeMachine {
    private static final int TRAY_BYTES = 16000;
    private static final int FED_BYTES = 65536;
    private static final int FEED_BYTES = 20;
    private static final int MOST_ARGUMENTS = 8;
    private static final int MOST_FUEL = 50000;
    private static final int MOST_FRAMES = 60;
    private static final int MOST_ELEMENTS = 20000;
    private static final int MOST_ARRAYS = 400;
    private static final int MOST_MEMBERS = 24;
    private static final int MOST_PLACES = 24;

    /** Far above what any search through a file's instructions needs. */
    private static final int MOST_ROUNDS = 1000000;

    private static final int CHECKING = 100;
    private static final int METHOD_STRIDE = 2000;

    private static final int TAG_NAME = 1;
    private static final int TAG_INT = 3;
    private static final int TAG_LONG = 5;
    private static final int TAG_CLASS = 7;
    private static final int TAG_FIELD = 9;
    private static final int TAG_METHOD = 10;
    private static final int TAG_PAIR = 12;

    // What a place can be used as, bit by bit, so that two types join by & and a value is good for
    // a told type if it has all the told bits. NULL is both references, NONE is nothing, and ANY
    // stands where nothing has come yet.
    private static final int NONE = 0;
    private static final int INT = 1;
    private static final int LOW = 2;
    private static final int HIGH = 4;
    private static final int INTS = 8;
    private static final int ERROR = 16;
    private static final int NULL = INTS | ERROR;
    private static final int ANY = 31;

    // The places of a frame: the locals, and the stack behind them.
    private static final int STACK = MOST_PLACES;
    private static final int FRAME_PLACES = 2 * MOST_PLACES;

    private static final int DIVIDE_ERROR = 0;
    private static final int NULL_ERROR = 1;
    private static final int INDEX_ERROR = 2;
    private static final int SIZE_ERROR = 3;
    private static final int NO_ERROR = -1;

    private static final int RETURNED = 0;
    private static final int FAILED = 1;
    private static final int NO_FUEL = 2;
    private static final int TOO_DEEP = 3;
    private static final int TOO_LARGE = 4;
    private static final int GOING = -1;

    // Letters of types: I and J as in the file, N for [I (one sign), V for no result; and of what
    // instructions take and give: null, an error, any reference.
    private static final char LETTER_INT = 'I';
    private static final char LETTER_LONG = 'J';
    private static final char LETTER_INTS = 'N';
    private static final char LETTER_VOID = 'V';
    private static final char LETTER_NULL = '0';
    private static final char LETTER_ERROR = 'E';
    private static final char LETTER_REFERENCE = 'A';
    private static final char NO_LETTER = (char) 0;

    // Instructions, as the decoder leaves them: short forms are told by their long ones.
    private static final int PUSH_NULL = 1;
    private static final int PUSH_INT = 17;
    private static final int PUSH_LONG = 20;
    private static final int LOAD_INT = 21;
    private static final int LOAD_LONG = 22;
    private static final int LOAD_REFERENCE = 25;
    private static final int GET_ELEMENT = 46;
    private static final int STORE_INT = 54;
    private static final int STORE_LONG = 55;
    private static final int STORE_REFERENCE = 58;
    private static final int PUT_ELEMENT = 79;
    private static final int POP = 87;
    private static final int POP_TWO = 88;
    private static final int DUP = 89;
    private static final int DUP_BELOW = 90;
    private static final int DUP_TWO = 92;
    private static final int SWAP = 95;
    private static final int ADD = 96;
    private static final int SUB = 100;
    private static final int MUL = 104;
    private static final int DIV = 108;
    private static final int REM = 112;
    private static final int NEG = 116;
    private static final int SHL = 120;
    private static final int SHR = 122;
    private static final int USHR = 124;
    private static final int AND = 126;
    private static final int OR = 128;
    private static final int LAST_XOR = 131;
    private static final int GROW = 132;
    private static final int INT_TO_LONG = 133;
    private static final int LONG_TO_INT = 136;
    private static final int INT_TO_BYTE = 145;
    private static final int INT_TO_CHAR = 146;
    private static final int INT_TO_SHORT = 147;
    private static final int COMPARE = 148;
    private static final int IF_ZERO = 153;
    private static final int IF_INTS = 159;
    private static final int IF_SAME = 165;
    private static final int IF_NOT_SAME = 166;
    private static final int GOTO = 167;
    private static final int TABLE = 170;
    private static final int LOOKUP = 171;
    private static final int RETURN_INT = 172;
    private static final int RETURN_LONG = 173;
    private static final int RETURN_REFERENCE = 176;
    private static final int RETURN_NOTHING = 177;
    private static final int GET_FIELD = 178;
    private static final int PUT_FIELD = 179;
    private static final int CALL = 184;
    private static final int NEW_INTS = 188;
    private static final int LENGTH = 190;
    private static final int THROW = 191;
    private static final int WIDE = 196;
    private static final int IF_NULL = 198;
    private static final int IF_NOT_NULL = 199;
    private static final int GOTO_FAR = 200;

    private final byte[] tray = new byte[TRAY_BYTES];
    private int filled;
    private int fed;
    private int placeOfFault = -1;
    private final Stage stage = new Stage();
    private final Runner runner = new Runner(stage);
    private final long[] arguments = new long[MOST_ARGUMENTS];
    private int argumentCount;

    public CodeMachine() {
    }

    public int feed(int a, int b, int c, int d, int e) {
        if (filled + FEED_BYTES > TRAY_BYTES || fed + FEED_BYTES > FED_BYTES) {
            return -1;
        }
        fed += FEED_BYTES;
        putInTray(a);
        putInTray(b);
        putInTray(c);
        putInTray(d);
        putInTray(e);
        return filled;
    }

    private void putInTray(int word) {
        for (int shift = 24; shift >= 0 && filled < TRAY_BYTES; shift -= 8) {
            tray[filled] = (byte) (word >>> shift);
            filled++;
        }
    }

    public boolean end(int n) {
        if (n < 0 || n > filled) {
            return false;
        }
        filled = n;
        return true;
    }

    public int load() {
        ClassFile file = new ClassFile(Arrays.copyOf(tray, filled));
        filled = 0;
        if (new Layout(file).holds()) {
            Decoder decoder = new Decoder(file);
            if (decoder.holds() && new Checker(file, decoder.code).holds()) {
                stage.put(file, decoder.code);
            }
        }
        placeOfFault = file.faultPlace;
        return file.brokenRule;
    }

    public int place() {
        return placeOfFault;
    }

    public int size(int what) {
        ClassFile file = stage.file;
        Code code = stage.code;
        if (file == null || code == null) {
            return -1;
        }
        switch (what) {
            case 0:
                return file.fieldAt.length;
            case 1:
                return file.methods.length;
            case 2:
                return code.count;
            default:
                return -1;
        }
    }

    public int height(int m, int i) {
        Code code = stage.code;
        Method method = stage.method(m);
        if (code == null || method == null || i < 0 || i >= method.count) {
            return -1;
        }
        return code.heightBefore(method.first + i);
    }

    public boolean reset() {
        if (stage.file == null) {
            return false;
        }
        stage.clear();
        return true;
    }

    public int argument(long v) {
        if (argumentCount >= MOST_ARGUMENTS) {
            return -1;
        }
        arguments[argumentCount] = v;
        argumentCount++;
        return argumentCount;
    }

    public int run(int m, int fuel) {
        int given = argumentCount;
        argumentCount = 0;
        Code code = stage.code;
        Method method = stage.method(m);
        if (code == null || method == null) {
            return -1;
        }
        if (!stage.takes(method, arguments, given)) {
            return -2;
        }
        if (fuel < 0 || fuel > MOST_FUEL) {
            return -3;
        }
        return runner.play(code, method, arguments, fuel);
    }

    public long result() {
        return runner.result;
    }

    public int error() {
        return runner.error;
    }

    public int steps() {
        return runner.steps;
    }

    public long field(int k) {
        return stage.valueOf(k);
    }

    public int element(int a, int i) {
        return stage.hasElement(a, i) ? stage.elementOf(a, i) : 0;
    }

    public int arrayLength(int a) {
        return stage.lengthOf(a);
    }

    public int strays() {
        return runner.strays;
    }

    /** The bytes of a file, with what has been found in them so far. */
    private static final class ClassFile {
        final byte[] bytes;
        int brokenRule;
        int faultPlace = -1;
        int[] entries = new int[0]; // the place of the tag by number; 0 where there is no entry
        int[] texts = new int[0]; // by the number of a NAME the first NAME that has its text
        int headAt;
        int[] fieldAt = new int[0];
        String fieldLetters = "";
        Method[] methods = new Method[0];
        int attributesAt;

        ClassFile(byte[] bytes) {
            this.bytes = bytes;
        }

        /** Tells the fault of this file; always false, as the answer of the rule that found it. */
        boolean breaks(int rule, int at) {
            brokenRule = rule;
            faultPlace = at;
            return false;
        }

        int byteAt(int at) {
            return at >= 0 && at < bytes.length ? bytes[at] & 255 : 0;
        }

        int pairAt(int at) {
            return byteAt(at) << 8 | byteAt(at + 1);
        }

        int fourAt(int at) {
            return byteAt(at) << 24 | byteAt(at + 1) << 16 | byteAt(at + 2) << 8 | byteAt(at + 3);
        }

        long unsignedFourAt(int at) {
            return fourAt(at) & 0xFFFFFFFFL;
        }

        long eightAt(int at) {
            return (long) fourAt(at) << 32 | fourAt(at + 4) & 0xFFFFFFFFL;
        }

        int entryAt(int number) {
            return number > 0 && number < entries.length ? entries[number] : 0;
        }

        int tagOf(int number) {
            int at = entryAt(number);
            return at == 0 ? 0 : byteAt(at);
        }

        int firstOf(int number) {
            return pairAt(entryAt(number) + 1);
        }

        int secondOf(int number) {
            return pairAt(entryAt(number) + 3);
        }

        int textAt(int name) {
            return entryAt(name) + 3;
        }

        int textEnd(int name) {
            return textAt(name) + firstOf(name);
        }

        /** The first NAME with the text of this one, so that texts can be compared as numbers. */
        int textOf(int name) {
            return name > 0 && name < texts.length ? texts[name] : 0;
        }

        boolean spells(int name, String text) {
            if (tagOf(name) != TAG_NAME || pairAt(entryAt(name) + 1) != text.length()) {
                return false;
            }
            int at = textAt(name);
            for (int i = 0; i < text.length(); i++) {
                if (byteAt(at + i) != text.charAt(i)) {
                    return false;
                }
            }
            return true;
        }

        /** The letter of the type that begins there in a text. */
        char letterAt(int at, int end) {
            int sign = at < end ? byteAt(at) : 0;
            if (sign == LETTER_INT || sign == LETTER_LONG) {
                return (char) sign;
            }
            boolean ints = sign == '[' && at + 1 < end && byteAt(at + 1) == LETTER_INT;
            return ints ? LETTER_INTS : NO_LETTER;
        }

        /** The letter of the type that a whole text is. */
        char letterOf(int name) {
            char letter = letterAt(textAt(name), textEnd(name));
            return firstOf(name) == signsOf(letter) ? letter : NO_LETTER;
        }

        /** Puts the letters of a method's type, the result's last; false if the text is none. */
        boolean readMethodType(int name, StringBuilder letters) {
            letters.setLength(0);
            int end = textEnd(name);
            int at = textAt(name);
            if (byteAt(at) != '(') {
                return false;
            }
            at++;
            while (at < end && byteAt(at) != ')') {
                char letter = letterAt(at, end);
                if (letter == NO_LETTER) {
                    return false;
                }
                letters.append(letter);
                at += signsOf(letter);
            }
            at++;
            char result = at < end && byteAt(at) == LETTER_VOID ? LETTER_VOID : letterAt(at, end);
            letters.append(result);
            return result != NO_LETTER && at + signsOf(result) == end;
        }

        static int signsOf(char letter) {
            return letter == LETTER_INTS ? 2 : 1;
        }

        /** The field of this name and type, both told by NAMEs; -1 if there is none. */
        int fieldCalled(int name, int type) {
            for (int k = 0; k < fieldAt.length; k++) {
                int at = fieldAt[k];
                if (textOf(pairAt(at + 2)) == textOf(name) && textOf(pairAt(at + 4)) == textOf(type)) {
                    return k;
                }
            }
            return -1;
        }

        int methodCalled(int name, int type) {
            for (int m = 0; m < methods.length; m++) {
                int at = methods[m].flagsAt;
                if (textOf(pairAt(at + 2)) == textOf(name) && textOf(pairAt(at + 4)) == textOf(type)) {
                    return m;
                }
            }
            return -1;
        }

        Method methodOf(int m) {
            return m >= 0 && m < methods.length ? methods[m] : null;
        }

        char fieldLetter(int k) {
            return k >= 0 && k < fieldLetters.length() ? fieldLetters.charAt(k) : NO_LETTER;
        }
    }

    /** A method of the file: where its parts lie, and the numbers of its instructions. */
    private static final class Method {
        static final int CATCH_FROM = 0;
        static final int CATCH_TO = 1;
        static final int CATCH_AT = 2;
        static final int CATCH_ERROR = 3;
        static final int CATCH_PARTS = 4;

        int flagsAt;
        String parameters = "";
        char result = LETTER_VOID;
        int codeAt;
        int codeEnd;
        int mostStack;
        int mostLocals;
        int start;
        int length;
        int catchesAt;
        int first; // its first instruction, among those of all methods
        int count;
        int[] catches = new int[0]; // from, to and at by number, then the error or -1 for all

        int catchCount() {
            return catches.length / CATCH_PARTS;
        }

        int catchPart(int c, int part) {
            int at = c * CATCH_PARTS + part;
            return at >= 0 && at < catches.length ? catches[at] : -1;
        }

        boolean catchHas(int c, int i) {
            int at = c * CATCH_PARTS;
            return at >= 0 && at + CATCH_TO < catches.length && i >= catches[at + CATCH_FROM] && i < catches[at + CATCH_TO];
        }

        boolean isCaught(int i) {
            for (int c = 0; c < catchCount(); c++) {
                if (catchHas(c, i)) {
                    return true;
                }
            }
            return false;
        }

        /** Where an error of this instruction goes on in the method; -1 if it leaves it. */
        int catcherOf(int i, int error) {
            for (int c = 0; c < catchCount(); c++) {
                int wanted = catchPart(c, CATCH_ERROR);
                if (catchHas(c, i) && (wanted == NO_ERROR || wanted == error)) {
                    return catchPart(c, CATCH_AT);
                }
            }
            return -1;
        }
    }

    /** Rules 1 to 14 and 17: where the items of a file lie, and what they point to. */
    private static final class Layout {
        private static final int[] HEAD = {202, 254, 186, 190, 0, 0, 0, 49};
        private static final int MOST_POOL = 500;
        private static final int MOST_NAME = 100;
        private static final int CLASS_FLAGS = 33;
        private static final int MEMBER_FLAGS = 9;
        private static final int MOST_PARAMETER_PLACES = 8;
        private static final int MOST_CODE = 1200;
        private static final int MOST_CATCHES = 16;

        private final ClassFile file;
        private final StringBuilder letters = new StringBuilder();
        private int at;
        private int limit; // no item goes beyond this place
        private int limitRule;

        Layout(ClassFile file) {
            this.file = file;
            this.limit = file.bytes.length;
            this.limitRule = 2;
        }

        boolean holds() {
            return headWalks() && poolWalks() && classWalks() && fieldsWalk() && methodsWalk() && endWalks()
                    && textsGather() && entriesPoint() && flagsHold() && classesHold() && namesHold()
                    && pairTypesHold() && fieldTypesHold() && methodTypesHold()
                    && namesDiffer() && codesAreThere() && nothingIsBehind() && codesHold();
        }

        private boolean has(long count) {
            return at + count <= limit || file.breaks(limitRule, limit);
        }

        private boolean skip(long count) {
            if (!has(count)) {
                return false;
            }
            at += (int) count;
            return true;
        }

        private boolean headWalks() {
            for (at = 0; at < HEAD.length; at++) {
                if (!has(1)) {
                    return false;
                }
                if (file.byteAt(at) != HEAD[at]) {
                    return file.breaks(1, at);
                }
            }
            return true;
        }

        private boolean poolWalks() {
            if (!has(2)) {
                return false;
            }
            int count = file.pairAt(at);
            if (count < 1 || count > MOST_POOL) {
                return file.breaks(5, at);
            }
            at += 2;
            file.entries = new int[count];
            int number = 1;
            while (number < count) {
                int tag = file.byteAt(at);
                file.entries[number] = at;
                if (!has(1) || !entryWalks(tag)) {
                    return false;
                }
                number += tag == TAG_LONG ? 2 : 1;
            }
            return true;
        }

        private boolean entryWalks(int tag) {
            switch (tag) {
                case TAG_NAME:
                    return nameWalks();
                case TAG_CLASS:
                    return skip(3);
                case TAG_INT:
                case TAG_PAIR:
                case TAG_FIELD:
                case TAG_METHOD:
                    return skip(5);
                case TAG_LONG:
                    return skip(9);
                default:
                    return file.breaks(3, at);
            }
        }

        /** A wrong length or sign breaks rule 4 at the tag, which is left of the file's end, where rule 2 is told. */
        private boolean nameWalks() {
            if (!has(3)) {
                return false;
            }
            int length = file.pairAt(at + 1);
            if (length < 1 || length > MOST_NAME) {
                return file.breaks(4, at);
            }
            for (int i = at + 3; i < at + 3 + length && i < limit; i++) {
                if (file.byteAt(i) < 33 || file.byteAt(i) > 126) {
                    return file.breaks(4, at);
                }
            }
            return skip(3 + length);
        }

        private boolean classWalks() {
            file.headAt = at;
            return skip(8);
        }

        /** The number of fields or methods; -1 if it can't be. */
        private int memberCount() {
            if (!has(2)) {
                return -1;
            }
            int count = file.pairAt(at);
            if (count > MOST_MEMBERS) {
                file.breaks(5, at);
                return -1;
            }
            at += 2;
            return count;
        }

        private boolean fieldsWalk() {
            int count = memberCount();
            if (count < 0) {
                return false;
            }
            file.fieldAt = new int[count];
            for (int k = 0; k < count; k++) {
                file.fieldAt[k] = at;
                if (!skip(6) || !attributesWalk()) {
                    return false;
                }
            }
            return true;
        }

        private boolean methodsWalk() {
            int count = memberCount();
            if (count < 0) {
                return false;
            }
            file.methods = new Method[count];
            for (int m = 0; m < count; m++) {
                file.methods[m] = new Method();
            }
            for (Method method : file.methods) {
                method.flagsAt = at;
                if (!skip(6) || !attributesWalk()) {
                    return false;
                }
            }
            return true;
        }

        private boolean endWalks() {
            file.attributesAt = at;
            return attributesWalk();
        }

        private boolean attributesWalk() {
            if (!has(2)) {
                return false;
            }
            int count = file.pairAt(at);
            at += 2;
            for (int i = 0; i < count; i++) {
                if (!has(6) || !skip(6 + file.unsignedFourAt(at + 2))) {
                    return false;
                }
            }
            return true;
        }

        private int behindAttribute(int attribute) {
            return attribute + 6 + file.fourAt(attribute + 2);
        }

        private boolean textsGather() {
            file.texts = new int[file.entries.length];
            for (int number = 1; number < file.texts.length; number++) {
                if (file.tagOf(number) == TAG_NAME) {
                    file.texts[number] = firstWithText(number);
                }
            }
            return true;
        }

        private int firstWithText(int number) {
            for (int earlier = 1; earlier < number; earlier++) {
                if (file.tagOf(earlier) == TAG_NAME && sameText(file.entryAt(earlier), file.entryAt(number))) {
                    return earlier;
                }
            }
            return number;
        }

        /** Whether the NAMEs with these tags' places have the same length and signs. */
        private boolean sameText(int place, int other) {
            int length = file.pairAt(place + 1);
            for (int i = 1; i < 3 + length; i++) {
                if (file.byteAt(place + i) != file.byteAt(other + i)) {
                    return false;
                }
            }
            return true;
        }

        private boolean entriesPoint() {
            for (int number = 1; number < file.entries.length; number++) {
                if (!entryPoints(number)) {
                    return file.breaks(6, file.entryAt(number));
                }
            }
            return true;
        }

        private boolean entryPoints(int number) {
            int first = file.tagOf(file.firstOf(number));
            int second = file.tagOf(file.secondOf(number));
            switch (file.tagOf(number)) {
                case TAG_CLASS:
                    return first == TAG_NAME;
                case TAG_PAIR:
                    return first == TAG_NAME && second == TAG_NAME;
                case TAG_FIELD:
                case TAG_METHOD:
                    return first == TAG_CLASS && second == TAG_PAIR;
                default:
                    return true;
            }
        }

        private boolean flagsHold() {
            if (file.pairAt(file.headAt) != CLASS_FLAGS) {
                return file.breaks(7, file.headAt);
            }
            for (int field : file.fieldAt) {
                if (file.pairAt(field) != MEMBER_FLAGS) {
                    return file.breaks(7, field);
                }
            }
            for (Method method : file.methods) {
                if (file.pairAt(method.flagsAt) != MEMBER_FLAGS) {
                    return file.breaks(7, method.flagsAt);
                }
            }
            return true;
        }

        private boolean classesHold() {
            for (int place = file.headAt + 2; place <= file.headAt + 4; place += 2) {
                if (file.tagOf(file.pairAt(place)) != TAG_CLASS) {
                    return file.breaks(8, place);
                }
            }
            return file.pairAt(file.headAt + 6) == 0 || file.breaks(8, file.headAt + 6);
        }

        private boolean namesHold() {
            for (int field : file.fieldAt) {
                if (!memberNamesHold(field)) {
                    return false;
                }
            }
            for (Method method : file.methods) {
                if (!memberNamesHold(method.flagsAt)) {
                    return false;
                }
            }
            return attributeNamesHold(file.attributesAt);
        }

        private boolean memberNamesHold(int member) {
            return isName(member + 2) && isName(member + 4) && attributeNamesHold(member + 6);
        }

        private boolean isName(int place) {
            return file.tagOf(file.pairAt(place)) == TAG_NAME || file.breaks(9, place);
        }

        private boolean attributeNamesHold(int countAt) {
            int count = file.pairAt(countAt);
            int attribute = countAt + 2;
            for (int i = 0; i < count; i++) {
                if (!isName(attribute)) {
                    return false;
                }
                attribute = behindAttribute(attribute);
            }
            return true;
        }

        private boolean pairTypesHold() {
            for (int number = 1; number < file.entries.length; number++) {
                int tag = file.tagOf(number);
                int type = file.secondOf(file.secondOf(number));
                boolean holds = (tag != TAG_FIELD || file.letterOf(type) != NO_LETTER)
                        && (tag != TAG_METHOD || file.readMethodType(type, letters));
                if (!holds) {
                    return file.breaks(10, file.entryAt(number));
                }
            }
            return true;
        }

        private boolean fieldTypesHold() {
            letters.setLength(0);
            for (int field : file.fieldAt) {
                char letter = file.letterOf(file.pairAt(field + 4));
                if (letter == NO_LETTER) {
                    return file.breaks(10, field + 4);
                }
                letters.append(letter);
            }
            file.fieldLetters = letters.toString();
            return true;
        }

        private boolean methodTypesHold() {
            for (Method method : file.methods) {
                int typeAt = method.flagsAt + 4;
                if (!file.readMethodType(file.pairAt(typeAt), letters)) {
                    return file.breaks(10, typeAt);
                }
                int last = letters.length() - 1;
                method.result = letters.charAt(last);
                letters.setLength(last);
                method.parameters = letters.toString();
                if (placesOf(method.parameters) > MOST_PARAMETER_PLACES) {
                    return file.breaks(10, typeAt);
                }
            }
            return true;
        }

        private boolean namesDiffer() {
            for (int k = 0; k < file.fieldAt.length; k++) {
                for (int earlier = 0; earlier < k; earlier++) {
                    if (sameName(file.fieldAt[earlier], file.fieldAt[k])) {
                        return file.breaks(11, file.fieldAt[k] + 2);
                    }
                }
            }
            for (int m = 0; m < file.methods.length; m++) {
                for (int earlier = 0; earlier < m; earlier++) {
                    if (sameName(file.methods[earlier].flagsAt, file.methods[m].flagsAt)) {
                        return file.breaks(11, file.methods[m].flagsAt + 2);
                    }
                }
            }
            return true;
        }

        private boolean sameName(int member, int other) {
            return file.textOf(file.pairAt(member + 2)) == file.textOf(file.pairAt(other + 2));
        }

        private boolean codesAreThere() {
            for (Method method : file.methods) {
                if (!findsCode(method)) {
                    return file.breaks(12, method.flagsAt);
                }
            }
            return true;
        }

        private boolean findsCode(Method method) {
            int found = 0;
            int count = file.pairAt(method.flagsAt + 6);
            int attribute = method.flagsAt + 8;
            for (int i = 0; i < count; i++) {
                if (file.spells(file.pairAt(attribute), "Code")) {
                    found++;
                    method.codeAt = attribute + 6;
                    method.codeEnd = behindAttribute(attribute);
                }
                attribute = behindAttribute(attribute);
            }
            return found == 1;
        }

        private boolean nothingIsBehind() {
            return at == file.bytes.length || file.breaks(17, at);
        }

        private boolean codesHold() {
            for (Method method : file.methods) {
                at = method.codeAt;
                limit = method.codeEnd;
                limitRule = 14;
                if (!sizesHold(method) || !codeWalks(method) || !catchesWalk(method) || !attributesWalk()) {
                    return false;
                }
                if (at != limit) {
                    return file.breaks(14, at);
                }
            }
            return true;
        }

        private boolean sizesHold(Method method) {
            if (!has(2)) {
                return false;
            }
            method.mostStack = file.pairAt(at);
            if (method.mostStack > MOST_PLACES) {
                return file.breaks(13, at);
            }
            at += 2;
            if (!has(2)) {
                return false;
            }
            method.mostLocals = file.pairAt(at);
            if (method.mostLocals > MOST_PLACES || method.mostLocals < placesOf(method.parameters)) {
                return file.breaks(13, at);
            }
            at += 2;
            return true;
        }

        private boolean codeWalks(Method method) {
            if (!has(4)) {
                return false;
            }
            long length = file.unsignedFourAt(at);
            if (length < 1 || length > MOST_CODE) {
                return file.breaks(13, at);
            }
            at += 4;
            method.start = at;
            method.length = (int) length;
            return skip(length);
        }

        private boolean catchesWalk(Method method) {
            if (!has(2)) {
                return false;
            }
            int count = file.pairAt(at);
            if (count > MOST_CATCHES) {
                return file.breaks(13, at);
            }
            at += 2;
            method.catchesAt = at;
            method.catches = new int[count * Method.CATCH_PARTS];
            return skip(8L * count);
        }
    }

    /** How many places the values of these letters have together. */
    private static int placesOf(String letters) {
        int places = 0;
        for (int n = 0; n < letters.length(); n++) {
            places += letters.charAt(n) == LETTER_LONG ? 2 : 1;
        }
        return places;
    }

    /** The instructions of all methods by number, and what the checking has told of them. */
    private static final class Code {
        final ClassFile file;
        final int[] numbers; // by place in the file; -1 where no instruction begins
        final int[] places;
        int count;
        int[] ops = new int[0];
        long[] operands = new long[0];
        int[] growths = new int[0];
        int[] heights = new int[0]; // -1 before an instruction that is not come to
        byte[] kinds = new byte[0]; // the types before each instruction, place by place of its frame

        /** A code of at most so many bytes, all methods together. */
        Code(ClassFile file, int bytes) {
            this.file = file;
            this.numbers = new int[bytes == 0 ? 0 : file.bytes.length];
            this.places = new int[bytes];
            Arrays.fill(numbers, -1);
        }

        void add(int place) {
            if (count < places.length && place >= 0 && place < numbers.length) {
                numbers[place] = count;
                places[count] = place;
                count++;
            }
        }

        /** Makes the rows, once all instructions are numbered. */
        void open() {
            ops = new int[count];
            operands = new long[count];
            growths = new int[count];
            heights = new int[count];
            kinds = new byte[count * FRAME_PLACES];
        }

        boolean put(int i, int op, long operand) {
            if (has(i)) {
                ops[i] = op;
                operands[i] = operand;
            }
            return true;
        }

        boolean has(int i) {
            return i >= 0 && i < ops.length;
        }

        int op(int i) {
            return i >= 0 && i < ops.length ? ops[i] : 0;
        }

        long operand(int i) {
            return i >= 0 && i < operands.length ? operands[i] : 0;
        }

        /** The operand where it is a number of an instruction, a local, a field, a method, or a place. */
        int index(int i) {
            return i >= 0 && i < operands.length ? (int) operands[i] : 0;
        }

        int growth(int i) {
            return has(i) ? growths[i] : 0;
        }

        int placeOf(int i) {
            return i >= 0 && i < count ? places[i] : 0;
        }

        int heightBefore(int i) {
            return has(i) ? heights[i] : -1;
        }

        /** The number of the instruction that begins at this place of the file; -1 if the method has none there. */
        int numberAt(Method method, long place) {
            boolean inside = place >= method.start && place < method.start + method.length && place < numbers.length;
            return inside ? numbers[(int) place] : -1;
        }

        int pairsOf(int i) {
            int at = index(i);
            return op(i) == TABLE ? file.fourAt(at + 8) - file.fourAt(at + 4) + 1 : file.fourAt(at + 4);
        }

        private int pairAt(int i, int pair) {
            return index(i) + (op(i) == TABLE ? 12 + 4 * pair : 8 + 8 * pair);
        }

        /** Where the switch i goes by one of its pairs; -1 stands for the default. */
        long switchPlace(int i, int pair) {
            int offsetAt = pair < 0 ? index(i) : pairAt(i, pair) + (op(i) == TABLE ? 0 : 4);
            return (long) placeOf(i) + file.fourAt(offsetAt);
        }

        /** The pair of the switch i that this number takes; -1 if none has it. */
        int pairFor(int i, int value) {
            if (op(i) == TABLE) {
                long pair = (long) value - file.fourAt(index(i) + 4);
                return pair >= 0 && pair < pairsOf(i) ? (int) pair : -1;
            }
            for (int pair = 0; pair < pairsOf(i); pair++) {
                if (file.fourAt(pairAt(i, pair)) == value) {
                    return pair;
                }
            }
            return -1;
        }

        static boolean isSwitch(int op) {
            return op == TABLE || op == LOOKUP;
        }

        static boolean isJump(int op) {
            return op >= IF_ZERO && op <= GOTO || op == IF_NULL || op == IF_NOT_NULL;
        }

        static boolean goesOn(int op) {
            return op != GOTO && op != THROW && !(op >= TABLE && op <= RETURN_NOTHING);
        }
    }

    /** Rules 15 and 16: the row of instructions, and what they and the catches point to. */
    private static final class Decoder {
        private static final int MOST_PAIRS = 200;
        private static final int INTS_OF_NEW = 10;

        // The length of each instruction in bytes; 0: there is none of that number, or it is told by its bytes.
        private static final byte[] LENGTHS = {
            1, 1, 1, 1, 1, 1, 1, 1, 1, 1, // 0
            1, 0, 0, 0, 0, 0, 2, 3, 2, 3, // 10
            3, 2, 2, 0, 0, 2, 1, 1, 1, 1, // 20
            1, 1, 1, 1, 0, 0, 0, 0, 0, 0, // 30
            0, 0, 1, 1, 1, 1, 1, 0, 0, 0, // 40
            0, 0, 0, 0, 2, 2, 0, 0, 2, 1, // 50
            1, 1, 1, 1, 1, 1, 1, 0, 0, 0, // 60
            0, 0, 0, 0, 0, 1, 1, 1, 1, 1, // 70
            0, 0, 0, 0, 0, 0, 0, 1, 1, 1, // 80
            1, 0, 1, 0, 0, 1, 1, 1, 0, 0, // 90
            1, 1, 0, 0, 1, 1, 0, 0, 1, 1, // 100
            0, 0, 1, 1, 0, 0, 1, 1, 0, 0, // 110
            1, 1, 1, 1, 1, 1, 1, 1, 1, 1, // 120
            1, 1, 3, 1, 0, 0, 1, 0, 0, 0, // 130
            0, 0, 0, 0, 0, 1, 1, 1, 1, 0, // 140
            0, 0, 0, 3, 3, 3, 3, 3, 3, 3, // 150
            3, 3, 3, 3, 3, 3, 3, 3, 0, 0, // 160
            0, 0, 1, 1, 0, 0, 1, 1, 3, 3, // 170
            0, 0, 0, 0, 3, 0, 0, 0, 2, 0, // 180
            1, 1, 0, 0, 0, 0, 0, 0, 3, 3, // 190
            5,
        };

        private final ClassFile file;
        final Code code;

        Decoder(ClassFile file) {
            this.file = file;
            int bytes = 0;
            for (Method method : file.methods) {
                bytes += method.length;
            }
            this.code = new Code(file, bytes);
        }

        boolean holds() {
            for (Method method : file.methods) {
                if (!isRow(method)) {
                    return false;
                }
            }
            code.open();
            for (Method method : file.methods) {
                if (!instructionsPoint(method) || !catchesPoint(method)) {
                    return false;
                }
            }
            return true;
        }

        private boolean isRow(Method method) {
            method.first = code.count;
            int at = method.start;
            int end = method.start + method.length;
            while (at < end) {
                int length = lengthAt(method, at);
                if (length < 1 || at + length > end) {
                    return file.breaks(15, at);
                }
                code.add(at);
                at += length;
            }
            method.count = code.count - method.first;
            return true;
        }

        private int lengthAt(Method method, int at) {
            int op = file.byteAt(at);
            switch (op) {
                case TABLE:
                    return tableLength(at, operandsAt(method, at));
                case LOOKUP:
                    return lookupLength(at, operandsAt(method, at));
                case WIDE:
                    return wideLength(file.byteAt(at + 1));
                case NEW_INTS:
                    return file.byteAt(at + 1) == INTS_OF_NEW ? 2 : 0;
                default:
                    return op < LENGTHS.length ? LENGTHS[op] : 0;
            }
        }

        /** A switch's operands begin at a multiple of 4, counted from the beginning of the code. */
        private static int operandsAt(Method method, int at) {
            return method.start + (at - method.start + 4) / 4 * 4;
        }

        private int tableLength(int at, int operands) {
            long more = (long) file.fourAt(operands + 8) - file.fourAt(operands + 4);
            if (more < 0 || more > MOST_PAIRS) {
                return 0;
            }
            return operands - at + 12 + 4 * ((int) more + 1);
        }

        private int lookupLength(int at, int operands) {
            int pairs = file.fourAt(operands + 4);
            if (pairs < 0 || pairs > MOST_PAIRS) {
                return 0;
            }
            for (int pair = 1; pair < pairs; pair++) {
                int numberAt = operands + 8 + 8 * pair;
                if (file.fourAt(numberAt) <= file.fourAt(numberAt - 8)) {
                    return 0;
                }
            }
            return operands - at + 8 + 8 * pairs;
        }

        private static int wideLength(int op) {
            switch (op) {
                case LOAD_INT:
                case LOAD_LONG:
                case LOAD_REFERENCE:
                case STORE_INT:
                case STORE_LONG:
                case STORE_REFERENCE:
                    return 4;
                case GROW:
                    return 6;
                default:
                    return 0;
            }
        }

        private boolean instructionsPoint(Method method) {
            for (int i = method.first; i < method.first + method.count; i++) {
                if (!decodes(method, i, code.placeOf(i))) {
                    return file.breaks(16, code.placeOf(i));
                }
            }
            return true;
        }

        private boolean decodes(Method method, int i, int at) {
            int op = file.byteAt(at);
            if (op >= 2 && op <= PUSH_LONG) {
                return decodesPush(i, at, op);
            }
            if (op >= 26 && op <= 45) {
                return decodesLocal(method, i, LOAD_INT + (op - 26) / 4, (op - 26) % 4, 0);
            }
            if (op >= 59 && op <= 78) {
                return decodesLocal(method, i, STORE_INT + (op - 59) / 4, (op - 59) % 4, 0);
            }
            if (op == WIDE) {
                int growth = (short) file.pairAt(at + 4);
                return decodesLocal(method, i, file.byteAt(at + 1), file.pairAt(at + 2), growth);
            }
            if (wideLength(op) > 0) {
                int growth = (byte) file.byteAt(at + 2);
                return decodesLocal(method, i, op, file.byteAt(at + 1), growth);
            }
            if (Code.isJump(op)) {
                return decodesJump(method, i, op, (long) at + (short) file.pairAt(at + 1));
            }
            if (op == GOTO_FAR) {
                return decodesJump(method, i, GOTO, (long) at + file.fourAt(at + 1));
            }
            if (Code.isSwitch(op)) {
                return decodesSwitch(method, i, op, operandsAt(method, at));
            }
            if (op == GET_FIELD || op == PUT_FIELD || op == CALL) {
                return decodesMember(i, op, file.pairAt(at + 1));
            }
            return code.put(i, op, 0);
        }

        private boolean decodesPush(int i, int at, int op) {
            int number = op == 18 ? file.byteAt(at + 1) : file.pairAt(at + 1);
            switch (op) {
                case 9:
                case 10:
                    return code.put(i, PUSH_LONG, op - 9);
                case 16:
                    return code.put(i, PUSH_INT, (byte) file.byteAt(at + 1));
                case 17:
                    return code.put(i, PUSH_INT, (short) file.pairAt(at + 1));
                case 18:
                case 19:
                    code.put(i, PUSH_INT, file.fourAt(file.entryAt(number) + 1));
                    return file.tagOf(number) == TAG_INT;
                case PUSH_LONG:
                    code.put(i, PUSH_LONG, file.eightAt(file.entryAt(number) + 1));
                    return file.tagOf(number) == TAG_LONG;
                default:
                    return code.put(i, PUSH_INT, op - 3);
            }
        }

        private boolean decodesLocal(Method method, int i, int op, int local, int growth) {
            code.put(i, op, local);
            if (code.has(i)) {
                code.growths[i] = growth;
            }
            int last = op == LOAD_LONG || op == STORE_LONG ? local + 1 : local;
            return last < method.mostLocals;
        }

        private boolean decodesJump(Method method, int i, int op, long place) {
            int target = code.numberAt(method, place);
            code.put(i, op, target);
            return target >= 0;
        }

        private boolean decodesSwitch(Method method, int i, int op, int operands) {
            code.put(i, op, operands);
            for (int pair = -1; pair < code.pairsOf(i); pair++) {
                if (code.numberAt(method, code.switchPlace(i, pair)) < 0) {
                    return false;
                }
            }
            return true;
        }

        private boolean decodesMember(int i, int op, int number) {
            if (file.tagOf(number) != (op == CALL ? TAG_METHOD : TAG_FIELD)) {
                return false;
            }
            int ownName = file.firstOf(file.pairAt(file.headAt + 2));
            if (file.textOf(file.firstOf(file.firstOf(number))) != file.textOf(ownName)) {
                return false;
            }
            int name = file.firstOf(file.secondOf(number));
            int type = file.secondOf(file.secondOf(number));
            int index = op == CALL ? file.methodCalled(name, type) : file.fieldCalled(name, type);
            code.put(i, op, index);
            return index >= 0;
        }

        private boolean catchesPoint(Method method) {
            for (int c = 0; c < method.catchCount(); c++) {
                int at = method.catchesAt + 8 * c;
                if (!decodesCatch(method, c, at)) {
                    return file.breaks(16, at);
                }
            }
            return true;
        }

        private boolean decodesCatch(Method method, int c, int at) {
            int from = code.numberAt(method, method.start + file.pairAt(at));
            int toOffset = file.pairAt(at + 2);
            int to = code.numberAt(method, method.start + toOffset);
            int handler = code.numberAt(method, method.start + file.pairAt(at + 4));
            int wanted = file.pairAt(at + 6);
            if (toOffset == method.length) {
                to = method.first + method.count;
            }
            int error = wanted == 0 ? NO_ERROR : errorOf(wanted);
            if (from < 0 || to <= from || handler < 0 || wanted != 0 && error == NO_ERROR) {
                return false;
            }
            int[] parts = method.catches;
            int first = c * Method.CATCH_PARTS;
            if (first >= 0 && first + Method.CATCH_ERROR < parts.length) {
                parts[first + Method.CATCH_FROM] = from;
                parts[first + Method.CATCH_TO] = to;
                parts[first + Method.CATCH_AT] = handler;
                parts[first + Method.CATCH_ERROR] = error;
            }
            return true;
        }

        /** The error that a CLASS names; -1 if the entry is no CLASS, or names none. */
        private int errorOf(int number) {
            if (file.tagOf(number) != TAG_CLASS) {
                return NO_ERROR;
            }
            int name = file.firstOf(number);
            if (file.spells(name, "DivideError")) {
                return DIVIDE_ERROR;
            }
            if (file.spells(name, "NullError")) {
                return NULL_ERROR;
            }
            if (file.spells(name, "IndexError")) {
                return INDEX_ERROR;
            }
            return file.spells(name, "SizeError") ? SIZE_ERROR : NO_ERROR;
        }
    }

    /** The checking: for each method first the heights of the stack, then the types of all places. */
    private static final class Checker {
        private final ClassFile file;
        private final Code code;
        private final int[] comeHeights; // bit h: the height h can come to the instruction
        private final int[] goneHeights; // those of them that have been looked at
        private final boolean[] faulty; // a fault of height
        private final boolean[] come; // types have come
        private final int[] waiting;
        private final boolean[] waits;
        private int waitingCount;
        private final Frame frame = new Frame();

        Checker(ClassFile file, Code code) {
            this.file = file;
            this.code = code;
            int count = code.count;
            comeHeights = new int[count];
            goneHeights = new int[count];
            faulty = new boolean[count];
            come = new boolean[count];
            waiting = new int[count];
            waits = new boolean[count];
            Arrays.fill(code.kinds, (byte) ANY);
        }

        boolean holds() {
            for (int m = 0; m < file.methods.length; m++) {
                Method method = file.methods[m];
                seekHeights(method);
                seekKinds(method);
                for (int i = method.first; i < method.first + method.count; i++) {
                    if (hasFault(method, i)) {
                        return file.breaks(CHECKING, m * METHOD_STRIDE + i - method.first);
                    }
                    code.heights[i] = heightOf(i);
                }
            }
            return true;
        }

        private boolean has(int i) {
            return i >= 0 && i < come.length;
        }

        private int heightOf(int i) {
            if (!has(i) || comeHeights[i] == 0) {
                return -1;
            }
            int lowest = comeHeights[i] & -comeHeights[i];
            return Integer.bitCount(lowest - 1);
        }

        private boolean hasHeightFault(int i) {
            return !has(i) || faulty[i] || Integer.bitCount(comeHeights[i]) > 1;
        }

        private boolean hasFault(Method method, int i) {
            if (hasHeightFault(i)) {
                return true;
            }
            if (!come[i]) {
                return false;
            }
            frame.copyKinds(code, i, heightOf(i));
            return !goesThrough(method, i);
        }

        private void enqueue(int i) {
            if (has(i) && !waits[i] && waitingCount < waiting.length) {
                waits[i] = true;
                waiting[waitingCount] = i;
                waitingCount++;
            }
        }

        private int nextWaiting() {
            waitingCount--;
            int i = waitingCount >= 0 && waitingCount < waiting.length ? waiting[waitingCount] : 0;
            if (has(i)) {
                waits[i] = false;
            }
            return i;
        }

        private void seekHeights(Method method) {
            comeWithHeight(method.first, 0);
            for (int round = 0; round < MOST_ROUNDS && waitingCount > 0; round++) {
                int i = nextWaiting();
                if (has(i)) {
                    int fresh = comeHeights[i] & ~goneHeights[i];
                    goneHeights[i] |= fresh;
                    for (int height = 0; height <= MOST_PLACES; height++) {
                        if ((fresh >> height & 1) == 1) {
                            spreadHeight(method, i, height);
                        }
                    }
                }
            }
        }

        private void comeWithHeight(int i, int height) {
            if (has(i) && (comeHeights[i] >> height & 1) == 0) {
                comeHeights[i] |= 1 << height;
                enqueue(i);
            }
        }

        private void spreadHeight(Method method, int i, int height) {
            int op = code.op(i);
            int left = height - placesOf(taken(i));
            int after = left + placesOf(given(i));
            boolean last = i + 1 == method.first + method.count;
            if (left < 0 || after > method.mostStack || last && Code.goesOn(op)
                    || method.mostStack < 1 && method.isCaught(i)) {
                faulty[i] = true;
                return;
            }
            if (Code.goesOn(op)) {
                comeWithHeight(i + 1, after);
            }
            if (Code.isJump(op)) {
                comeWithHeight(code.index(i), after);
            }
            if (Code.isSwitch(op)) {
                for (int pair = -1; pair < code.pairsOf(i); pair++) {
                    comeWithHeight(code.numberAt(method, code.switchPlace(i, pair)), after);
                }
            }
            for (int c = 0; c < method.catchCount(); c++) {
                if (method.catchHas(c, i)) {
                    comeWithHeight(method.catchPart(c, Method.CATCH_AT), 1);
                }
            }
        }

        private void seekKinds(Method method) {
            frame.open(method);
            int place = 0;
            for (int n = 0; n < method.parameters.length(); n++) {
                place = frame.giveLocal(place, method.parameters.charAt(n), 1);
            }
            comeWithKinds(method, method.first);
            for (int round = 0; round < MOST_ROUNDS && waitingCount > 0; round++) {
                spreadKinds(method, nextWaiting());
            }
        }

        private void spreadKinds(Method method, int i) {
            frame.copyKinds(code, i, heightOf(i));
            for (int c = 0; c < method.catchCount(); c++) {
                if (method.catchHas(c, i)) {
                    comeCaught(method, method.catchPart(c, Method.CATCH_AT));
                }
            }
            // What is wrong here is told later, when all that can come has come.
            goesThrough(method, i);
            int op = code.op(i);
            if (Code.goesOn(op)) {
                comeWithKinds(method, i + 1);
            }
            if (Code.isJump(op)) {
                comeWithKinds(method, code.index(i));
            }
            if (Code.isSwitch(op)) {
                for (int pair = -1; pair < code.pairsOf(i); pair++) {
                    comeWithKinds(method, code.numberAt(method, code.switchPlace(i, pair)));
                }
            }
        }

        /** The frame comes to instruction i. */
        private void comeWithKinds(Method method, int i) {
            if (hasHeightFault(i)) {
                return;
            }
            boolean changed = joinPlaces(i, 0, method.mostLocals);
            if (joinPlaces(i, STACK, STACK + heightOf(i)) || changed || !come[i]) {
                come[i] = true;
                enqueue(i);
            }
        }

        /** The locals of the frame come to instruction i, with an error alone on the stack. */
        private void comeCaught(Method method, int i) {
            if (hasHeightFault(i)) {
                return;
            }
            boolean changed = joinPlaces(i, 0, method.mostLocals);
            if (join(i * FRAME_PLACES + STACK, ERROR) || changed || !come[i]) {
                come[i] = true;
                enqueue(i);
            }
        }

        private boolean joinPlaces(int i, int from, int to) {
            boolean changed = false;
            for (int place = from; place < to; place++) {
                changed |= join(i * FRAME_PLACES + place, frame.kindAt(place));
            }
            return changed;
        }

        private boolean join(int at, int kind) {
            if (at < 0 || at >= code.kinds.length) {
                return false;
            }
            int before = code.kinds[at];
            code.kinds[at] = (byte) (before & kind);
            return code.kinds[at] != before;
        }

        /** Takes the frame through instruction i; false if that takes what is not of its types. */
        private boolean goesThrough(Method method, int i) {
            int op = code.op(i);
            int local = code.index(i);
            String letters = taken(i);
            boolean fits = isForLongs(op) && frame.hasLong() || stackFits(letters);
            if (op >= POP && op <= SWAP) {
                frame.shuffle(op);
                return fits;
            }
            switch (op) {
                case LOAD_INT:
                case LOAD_LONG:
                case LOAD_REFERENCE:
                    fits = localFits(op, local);
                    frame.pushLocal(op, local);
                    return fits;
                case STORE_INT:
                case STORE_LONG:
                case STORE_REFERENCE:
                    frame.popToLocal(op, local);
                    return fits;
                case GROW:
                    return localFits(LOAD_INT, local);
                default:
                    frame.drop(placesOf(letters));
                    frame.giveKinds(given(i));
                    return fits && returnFits(method, op);
            }
        }

        private static boolean isForLongs(int op) {
            return op == POP_TWO || op == DUP_TWO;
        }

        private boolean localFits(int op, int local) {
            if (op == LOAD_LONG) {
                return frame.kindAt(local) == LOW && frame.kindAt(local + 1) == HIGH;
            }
            return fits(op == LOAD_INT ? LETTER_INT : LETTER_REFERENCE, frame.kindAt(local));
        }

        private boolean stackFits(String letters) {
            int depth = 0;
            for (int n = letters.length() - 1; n >= 0; n--) {
                char letter = letters.charAt(n);
                if (letter == LETTER_LONG) {
                    if (frame.kindDown(depth) != HIGH || frame.kindDown(depth + 1) != LOW) {
                        return false;
                    }
                    depth += 2;
                } else {
                    if (!fits(letter, frame.kindDown(depth))) {
                        return false;
                    }
                    depth++;
                }
            }
            return true;
        }

        private static boolean fits(char letter, int kind) {
            switch (letter) {
                case LETTER_INT:
                    return kind == INT;
                case LETTER_INTS:
                    return (kind & INTS) != 0;
                case LETTER_ERROR:
                    return (kind & ERROR) != 0;
                case LETTER_REFERENCE:
                    return (kind & NULL) != 0;
                default:
                    return Frame.copied(kind) != NONE;
            }
        }

        private static boolean returnFits(Method method, int op) {
            switch (op) {
                case RETURN_INT:
                    return method.result == LETTER_INT;
                case RETURN_LONG:
                    return method.result == LETTER_LONG;
                case RETURN_REFERENCE:
                    return method.result == LETTER_INTS;
                case RETURN_NOTHING:
                    return method.result == LETTER_VOID;
                default:
                    return true;
            }
        }

        /**
         * What instruction i takes from the stack, the top last: I and J, N ints, E an error,
         * A any reference, P anything of one place (or, for two of them, perhaps a long).
         */
        private String taken(int i) {
            int op = code.op(i);
            if (op >= ADD && op <= LAST_XOR) {
                return takenByNumbers(op);
            }
            if (op >= IF_ZERO && op < IF_INTS) {
                return "I";
            }
            if (op >= IF_INTS && op < IF_SAME) {
                return "II";
            }
            if (op >= POP && op <= SWAP) {
                return op == POP || op == DUP ? "P" : "PP";
            }
            if (op == PUT_FIELD) {
                return textOf(file.fieldLetter(code.index(i)));
            }
            if (op == CALL) {
                Method callee = file.methodOf(code.index(i));
                return callee == null ? "" : callee.parameters;
            }
            return takenByOthers(op);
        }

        private static String takenByNumbers(int op) {
            boolean longs = (op & 1) == 1;
            if (op == NEG || op == NEG + 1) {
                return longs ? "J" : "I";
            }
            if (op >= SHL && op < AND) {
                return longs ? "JI" : "II";
            }
            return longs ? "JJ" : "II";
        }

        private static String takenByOthers(int op) {
            switch (op) {
                case STORE_INT:
                case INT_TO_LONG:
                case INT_TO_BYTE:
                case INT_TO_CHAR:
                case INT_TO_SHORT:
                case TABLE:
                case LOOKUP:
                case RETURN_INT:
                case NEW_INTS:
                    return "I";
                case STORE_LONG:
                case LONG_TO_INT:
                case RETURN_LONG:
                    return "J";
                case COMPARE:
                    return "JJ";
                case GET_ELEMENT:
                    return "NI";
                case PUT_ELEMENT:
                    return "NII";
                case LENGTH:
                case RETURN_REFERENCE:
                    return "N";
                case STORE_REFERENCE:
                case IF_NULL:
                case IF_NOT_NULL:
                    return "A";
                case IF_SAME:
                case IF_NOT_SAME:
                    return "AA";
                case THROW:
                    return "E";
                default:
                    return "";
            }
        }

        /** What instruction i puts on the stack, the top last: as taken, and 0 for null. */
        private String given(int i) {
            int op = code.op(i);
            if (op >= ADD && op <= LAST_XOR) {
                return (op & 1) == 1 ? "J" : "I";
            }
            if (op == GET_FIELD) {
                return textOf(file.fieldLetter(code.index(i)));
            }
            if (op == CALL) {
                Method callee = file.methodOf(code.index(i));
                return callee == null ? "" : textOf(callee.result);
            }
            return givenByOthers(op);
        }

        private static String givenByOthers(int op) {
            switch (op) {
                case PUSH_NULL:
                    return "0";
                case PUSH_INT:
                case LOAD_INT:
                case GET_ELEMENT:
                case LONG_TO_INT:
                case INT_TO_BYTE:
                case INT_TO_CHAR:
                case INT_TO_SHORT:
                case COMPARE:
                case LENGTH:
                    return "I";
                case PUSH_LONG:
                case LOAD_LONG:
                case INT_TO_LONG:
                    return "J";
                case NEW_INTS:
                    return "N";
                case LOAD_REFERENCE:
                    return "A";
                case DUP:
                case SWAP:
                    return "PP";
                case DUP_BELOW:
                    return "PPP";
                case DUP_TWO:
                    return "PPPP";
                default:
                    return "";
            }
        }

        private static String textOf(char letter) {
            switch (letter) {
                case LETTER_INT:
                    return "I";
                case LETTER_LONG:
                    return "J";
                case LETTER_INTS:
                    return "N";
                default:
                    return "";
            }
        }
    }

    /**
     * The locals and the stack of one method, each place with its type. The checker sends types
     * through the same frame in which the runner moves values, so that both move them alike.
     */
    private static final class Frame {
        private final long[] values = new long[FRAME_PLACES]; // a long stands whole in its lower place
        private final byte[] kinds = new byte[FRAME_PLACES];
        private int height;
        Method method = new Method();
        int current; // the instruction that was begun last
        int next;

        void open(Method opened) {
            method = opened;
            next = opened.first;
            current = next;
            height = 0;
            Arrays.fill(kinds, (byte) NONE);
            Arrays.fill(values, 0);
        }

        void copyKinds(Code code, int i, int newHeight) {
            height = newHeight;
            int begin = i * FRAME_PLACES;
            if (begin >= 0 && begin <= code.kinds.length - FRAME_PLACES) {
                System.arraycopy(code.kinds, begin, kinds, 0, FRAME_PLACES);
            }
        }

        /** How many places have another type than is told before instruction i, or another height. */
        int straysBefore(Code code, int i) {
            if (!code.has(i)) {
                return 1;
            }
            int strays = height == code.heightBefore(i) ? 0 : 1;
            strays += straysAmong(code.kinds, i * FRAME_PLACES, 0, method.mostLocals);
            return strays + straysAmong(code.kinds, i * FRAME_PLACES, STACK, STACK + height);
        }

        private int straysAmong(byte[] told, int begin, int from, int to) {
            int strays = 0;
            for (int place = from; place < to && place < FRAME_PLACES && begin + place < told.length; place++) {
                if ((kinds[place] & told[begin + place]) != told[begin + place]) {
                    strays++;
                }
            }
            return strays;
        }

        int kindAt(int place) {
            return place >= 0 && place < FRAME_PLACES ? kinds[place] : NONE;
        }

        private long valueAt(int place) {
            return place >= 0 && place < FRAME_PLACES ? values[place] : 0;
        }

        private void set(int place, int kind, long value) {
            if (place >= 0 && place < FRAME_PLACES) {
                kinds[place] = (byte) kind;
                values[place] = value;
            }
        }

        /** The type of the place so many below the top one of the stack. */
        int kindDown(int depth) {
            int place = STACK + height - 1 - depth;
            return place >= STACK && place < FRAME_PLACES ? kinds[place] : NONE;
        }

        private long valueDown(int depth) {
            int place = STACK + height - 1 - depth;
            return place >= STACK && place < FRAME_PLACES ? values[place] : 0;
        }

        boolean hasLong() {
            return kindDown(1) == LOW && kindDown(0) == HIGH;
        }

        void drop(int places) {
            height = Math.max(0, height - places);
        }

        void push(int kind, long value) {
            int place = STACK + height;
            if (place >= STACK && place < FRAME_PLACES) {
                kinds[place] = (byte) kind;
                values[place] = value;
                height++;
            }
        }

        void pushInt(long value) {
            push(INT, value);
        }

        void pushLong(long value) {
            push(LOW, value);
            push(HIGH, 0);
        }

        long pop() {
            long value = valueDown(0);
            drop(1);
            return value;
        }

        int popInt() {
            return (int) pop();
        }

        long popLong() {
            drop(1);
            return pop();
        }

        long take(char letter) {
            int places = letter == LETTER_LONG ? 2 : 1;
            long value = valueDown(places - 1);
            drop(places);
            return value;
        }

        void give(char letter, long value) {
            switch (letter) {
                case LETTER_INT:
                    pushInt(value);
                    break;
                case LETTER_LONG:
                    pushLong(value);
                    break;
                case LETTER_VOID:
                    break;
                default:
                    push(value == 0 ? NULL : INTS, value);
            }
        }

        /** Puts the types of these letters on the stack, 0 for null, without values. */
        void giveKinds(String letters) {
            for (int n = 0; n < letters.length(); n++) {
                switch (letters.charAt(n)) {
                    case LETTER_INT:
                        push(INT, 0);
                        break;
                    case LETTER_LONG:
                        pushLong(0);
                        break;
                    case LETTER_NULL:
                        push(NULL, 0);
                        break;
                    default:
                        push(INTS, 0);
                }
            }
        }

        /** Puts a parameter into its local; the place behind it. */
        int giveLocal(int local, char letter, long value) {
            switch (letter) {
                case LETTER_INT:
                    set(local, INT, value);
                    return local + 1;
                case LETTER_LONG:
                    set(local, LOW, value);
                    set(local + 1, HIGH, 0);
                    return local + 2;
                default:
                    set(local, value == 0 ? NULL : INTS, value);
                    return local + 1;
            }
        }

        /** Halves of a long and what is of no type are never copied by themselves. */
        static int copied(int kind) {
            return kind == INT || (kind & NULL) != 0 ? kind : NONE;
        }

        void pushLocal(int op, int local) {
            switch (op) {
                case LOAD_INT:
                    pushInt(valueAt(local));
                    break;
                case LOAD_LONG:
                    pushLong(valueAt(local));
                    break;
                default:
                    push(copied(kindAt(local)), valueAt(local));
            }
        }

        void popToLocal(int op, int local) {
            int kind = kindDown(0);
            long value = take(op == STORE_LONG ? LETTER_LONG : LETTER_INT);
            int behind = local + 1;
            if (op == STORE_LONG) {
                set(local, LOW, value);
                set(local + 1, HIGH, 0);
                behind++;
            } else {
                set(local, op == STORE_INT ? INT : copied(kind), value);
            }
            // A half of a long whose other half is gone is no value any more.
            if (kindAt(local - 1) == LOW) {
                set(local - 1, NONE, 0);
            }
            if (behind < STACK && kindAt(behind) == HIGH) {
                set(behind, NONE, 0);
            }
        }

        void grow(int local, int growth) {
            set(local, kindAt(local), (int) (valueAt(local) + growth));
        }

        void shuffle(int op) {
            boolean whole = op == DUP_TWO && hasLong();
            int upper = whole ? HIGH : copied(kindDown(0));
            int lower = whole ? LOW : copied(kindDown(1));
            long top = valueDown(0);
            long below = valueDown(1);
            drop(op == POP || op == DUP ? 1 : 2);
            switch (op) {
                case DUP:
                    push(upper, top);
                    push(upper, top);
                    break;
                case DUP_BELOW:
                    push(upper, top);
                    push(lower, below);
                    push(upper, top);
                    break;
                case DUP_TWO:
                    push(lower, below);
                    push(upper, top);
                    push(lower, below);
                    push(upper, top);
                    break;
                case SWAP:
                    push(upper, top);
                    push(lower, below);
                    break;
                default:
                    break;
            }
        }

        void catchError(int at, int error) {
            height = 0;
            push(ERROR, -1 - error);
            next = at;
        }
    }

    /** The one file that is staged, with its fields and the arrays that were made on it. */
    private static final class Stage {
        ClassFile file; // null as long as none has been staged
        Code code;
        private final long[] values = new long[MOST_MEMBERS];
        private final int[] elements = new int[MOST_ELEMENTS];
        private final int[] ends = new int[MOST_ARRAYS + 1]; // behind the elements of array a; ends[0] is 0
        private int arrays;

        void put(ClassFile stagedFile, Code itsCode) {
            file = stagedFile;
            code = itsCode;
            clear();
        }

        void clear() {
            arrays = 0;
            Arrays.fill(values, 0);
        }

        Method method(int m) {
            return file == null ? null : file.methodOf(m);
        }

        boolean takes(Method method, long[] arguments, int given) {
            if (given != method.parameters.length() || given > arguments.length) {
                return false;
            }
            for (int n = 0; n < given; n++) {
                boolean ints = method.parameters.charAt(n) == LETTER_INTS;
                if (ints && (arguments[n] < 0 || arguments[n] > arrays)) {
                    return false;
                }
            }
            return true;
        }

        private boolean hasField(int k) {
            return file != null && k >= 0 && k < file.fieldAt.length && k < MOST_MEMBERS;
        }

        char letterOf(int k) {
            return file == null ? NO_LETTER : file.fieldLetter(k);
        }

        long valueOf(int k) {
            return hasField(k) ? values[k] : 0;
        }

        void setValue(int k, long value) {
            if (hasField(k)) {
                values[k] = value;
            }
        }

        boolean canMake(int length) {
            return arrays < MOST_ARRAYS && length >= 0 && length <= MOST_ELEMENTS - ends[arrays];
        }

        int make(int length) {
            if (!canMake(length)) {
                return 0;
            }
            int begin = ends[arrays];
            Arrays.fill(elements, begin, begin + length, 0);
            arrays++;
            ends[arrays] = begin + length;
            return arrays;
        }

        int lengthOf(long a) {
            return a > 0 && a <= arrays ? ends[(int) a] - ends[(int) a - 1] : -1;
        }

        boolean hasElement(long a, int i) {
            return i >= 0 && i < lengthOf(a);
        }

        int elementOf(long a, int i) {
            return hasElement(a, i) ? elements[ends[(int) a - 1] + i] : 0;
        }

        void setElement(long a, int i, int value) {
            if (hasElement(a, i)) {
                elements[ends[(int) a - 1] + i] = value;
            }
        }
    }

    /** Runs methods of the stage. A reference is the number of an array, 0 for null, or -1 - e for an error e. */
    private static final class Runner {
        private final Stage stage;
        private final Frame[] frames = new Frame[MOST_FRAMES];
        private final long[] given = new long[MOST_ARGUMENTS];
        private int depth;
        private int outcome;
        private Frame frame;
        private Code code = new Code(new ClassFile(new byte[0]), 0); // of the staged file, once a run has begun
        long result;
        int error = NO_ERROR;
        int steps;
        int strays;

        Runner(Stage stage) {
            this.stage = stage;
            for (int d = 0; d < MOST_FRAMES; d++) {
                frames[d] = new Frame();
            }
            frame = frames[0];
        }

        int play(Code staged, Method method, long[] arguments, int fuel) {
            code = staged;
            depth = 0;
            outcome = GOING;
            result = 0;
            error = NO_ERROR;
            for (int n = 0; n < method.parameters.length() && n < given.length && n < arguments.length; n++) {
                boolean isInt = method.parameters.charAt(n) == LETTER_INT;
                given[n] = isInt ? (int) arguments[n] : arguments[n];
            }
            enter(method);
            for (steps = 0; steps < fuel && outcome == GOING; steps++) {
                step();
            }
            if (outcome == GOING) {
                outcome = NO_FUEL;
            }
            return outcome;
        }

        private void enter(Method method) {
            if (depth >= MOST_FRAMES) {
                outcome = TOO_DEEP;
                return;
            }
            frame = frames[depth];
            depth++;
            frame.open(method);
            int place = 0;
            for (int n = 0; n < method.parameters.length() && n < given.length; n++) {
                place = frame.giveLocal(place, method.parameters.charAt(n), given[n]);
            }
        }

        private void step() {
            int i = frame.next;
            strays += frame.straysBefore(code, i);
            frame.current = i;
            frame.next = i + 1;
            int op = code.op(i);
            if (op <= LOAD_REFERENCE) {
                push(op, i);
            } else if (op >= STORE_INT && op <= STORE_REFERENCE) {
                frame.popToLocal(op, code.index(i));
            } else if (op >= POP && op <= SWAP) {
                frame.shuffle(op);
            } else if (op >= ADD && op <= LAST_XOR) {
                calculate(op);
            } else if (op >= GROW && op <= COMPARE) {
                convert(op, i);
            } else if (Code.isJump(op)) {
                jump(op, i);
            } else if (Code.isSwitch(op)) {
                int pair = code.pairFor(i, frame.popInt());
                frame.next = code.numberAt(frame.method, code.switchPlace(i, pair));
            } else if (op >= RETURN_INT && op <= RETURN_NOTHING) {
                leave(frame.method.result);
            } else {
                reach(op, i);
            }
        }

        private void push(int op, int i) {
            switch (op) {
                case 0:
                    break;
                case PUSH_NULL:
                    frame.push(NULL, 0);
                    break;
                case PUSH_INT:
                    frame.pushInt(code.operand(i));
                    break;
                case PUSH_LONG:
                    frame.pushLong(code.operand(i));
                    break;
                default:
                    frame.pushLocal(op, code.index(i));
            }
        }

        /** Of two neighbours the even number is for ints, the odd one does the same with longs. */
        private void calculate(int op) {
            boolean longs = (op & 1) == 1;
            int kind = longs ? op - 1 : op;
            boolean shifts = kind >= SHL && kind < AND;
            long right = longs && !shifts ? frame.popLong() : frame.pop();
            long left = 0;
            if (kind == NEG) {
                kind = SUB;
            } else {
                left = longs ? frame.popLong() : frame.pop();
            }
            if ((kind == DIV || kind == REM) && right == 0) {
                raise(DIVIDE_ERROR);
                return;
            }
            if (longs) {
                frame.pushLong(calculated(kind, left, right, 63));
            } else {
                // Only the shift without sign sees that an int has no higher bits.
                long bits = kind == USHR ? left & 0xFFFFFFFFL : left;
                frame.pushInt((int) calculated(kind, bits, right, 31));
            }
        }

        private static long calculated(int kind, long left, long right, int mostShift) {
            int shift = (int) right & mostShift;
            switch (kind) {
                case ADD:
                    return left + right;
                case SUB:
                    return left - right;
                case MUL:
                    return left * right;
                case DIV:
                    return right == 0 ? 0 : left / right;
                case REM:
                    return right == 0 ? 0 : left % right;
                case SHL:
                    return left << shift;
                case SHR:
                    return left >> shift;
                case USHR:
                    return left >>> shift;
                case AND:
                    return left & right;
                case OR:
                    return left | right;
                default:
                    return left ^ right;
            }
        }

        private void convert(int op, int i) {
            switch (op) {
                case GROW:
                    frame.grow(code.index(i), code.growth(i));
                    break;
                case INT_TO_LONG:
                    frame.pushLong(frame.pop());
                    break;
                case LONG_TO_INT:
                    frame.pushInt((int) frame.popLong());
                    break;
                case INT_TO_BYTE:
                    frame.pushInt((byte) frame.pop());
                    break;
                case INT_TO_CHAR:
                    frame.pushInt((char) frame.pop());
                    break;
                case INT_TO_SHORT:
                    frame.pushInt((short) frame.pop());
                    break;
                default:
                    long right = frame.popLong();
                    frame.pushInt(Long.compare(frame.popLong(), right));
            }
        }

        private void jump(int op, int i) {
            if (jumps(op)) {
                frame.next = code.index(i);
            }
        }

        private boolean jumps(int op) {
            if (op == GOTO) {
                return true;
            }
            if (op == IF_NULL || op == IF_NOT_NULL) {
                boolean isNull = frame.pop() == 0;
                return op == IF_NULL ? isNull : !isNull;
            }
            boolean withZero = op < IF_INTS;
            long right = withZero ? 0 : frame.pop();
            long left = frame.pop();
            if (op == IF_SAME || op == IF_NOT_SAME) {
                return op == IF_SAME ? left == right : left != right;
            }
            switch (withZero ? op - IF_ZERO : op - IF_INTS) {
                case 0:
                    return left == right;
                case 1:
                    return left != right;
                case 2:
                    return left < right;
                case 3:
                    return left >= right;
                case 4:
                    return left > right;
                default:
                    return left <= right;
            }
        }

        private void leave(char letter) {
            long value = letter == LETTER_VOID ? 0 : frame.take(letter);
            depth--;
            if (depth > 0 && depth <= MOST_FRAMES) {
                frame = frames[depth - 1];
                frame.give(letter, value);
            } else {
                outcome = RETURNED;
                result = value;
            }
        }

        private void reach(int op, int i) {
            int k = code.index(i);
            switch (op) {
                case GET_FIELD:
                    frame.give(stage.letterOf(k), stage.valueOf(k));
                    break;
                case PUT_FIELD:
                    stage.setValue(k, frame.take(stage.letterOf(k)));
                    break;
                case CALL:
                    call(stage.method(k));
                    break;
                case NEW_INTS:
                    makeInts(frame.popInt());
                    break;
                case LENGTH:
                    readLength(frame.pop());
                    break;
                case GET_ELEMENT:
                    readElement(frame.popInt());
                    break;
                case PUT_ELEMENT:
                    writeElement(frame.popInt());
                    break;
                case THROW:
                    long thrown = frame.pop();
                    raise(thrown < 0 ? (int) (-1 - thrown) : NULL_ERROR);
                    break;
                default:
                    break;
            }
        }

        private void call(Method method) {
            if (method == null) {
                return;
            }
            for (int n = Math.min(method.parameters.length(), given.length) - 1; n >= 0; n--) {
                given[n] = frame.take(method.parameters.charAt(n));
            }
            enter(method);
        }

        private void makeInts(int length) {
            if (length < 0) {
                raise(SIZE_ERROR);
            } else if (!stage.canMake(length)) {
                outcome = TOO_LARGE;
            } else {
                frame.push(INTS, stage.make(length));
            }
        }

        private void readLength(long array) {
            if (array == 0) {
                raise(NULL_ERROR);
            } else {
                frame.pushInt(stage.lengthOf(array));
            }
        }

        private void readElement(int index) {
            long array = frame.pop();
            if (array == 0) {
                raise(NULL_ERROR);
            } else if (!stage.hasElement(array, index)) {
                raise(INDEX_ERROR);
            } else {
                frame.pushInt(stage.elementOf(array, index));
            }
        }

        private void writeElement(int value) {
            int index = frame.popInt();
            long array = frame.pop();
            if (array == 0) {
                raise(NULL_ERROR);
            } else if (!stage.hasElement(array, index)) {
                raise(INDEX_ERROR);
            } else {
                stage.setElement(array, index, value);
            }
        }

        /** Sends an error to the innermost method that catches it; methods that don't are left. */
        private void raise(int raised) {
            for (; depth > 0 && depth <= MOST_FRAMES; depth--) {
                frame = frames[depth - 1];
                int at = frame.method.catcherOf(frame.current, raised);
                if (at >= 0) {
                    frame.catchError(at, raised);
                    return;
                }
            }
            outcome = FAILED;
            error = raised;
        }
    }
}
