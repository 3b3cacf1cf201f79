import java.util.Arrays;

/** Promises 4 and 5 for the rules 1 to 14 and 17: what lies where in a file, and what is told if it doesn't. */
public final class LayoutTest {
    public static void main(String[] args) {
        everyCutGoesBeyondTheFile();
        numbersCutInTheMiddle();
        theHeadIsAsTold();
        tagsAreListed();
        namesAreShortAndVisible();
        countsAreBounded();
        theFirstPlaceIsTold();
        entriesPointToTheirSort();
        theFirstEntryPoints();
        numbersOfTheLastEntry();
        flagsAreAsTold();
        classesAreClasses();
        namesAreNames();
        typesAreTypes();
        namesDiffer();
        codeIsThereOnce();
        nothingStandsBehind();
        sizesOfCode();
        itemsOfCode();
        rulesComeInTheirOrder();
        Due.close();
    }

    private static Body five() {
        return new Body(1, 0).put(8, 172);
    }

    /** A file with something of everything. */
    private static ClassMaker full() {
        ClassMaker maker = new ClassMaker();
        maker.number(70000);
        maker.number(1L << 40);
        ClassMaker.Member first = maker.addField("f", "I");
        first.attributes.add(new ClassMaker.Attribute(maker.name("Code"), ClassMaker.bytes(1, 2, 3)));
        first.attributes.add(new ClassMaker.Attribute(maker.name("Code"), new byte[0]));
        maker.addField("g", "J");
        maker.addField("h", "[I");
        maker.field("f", "I");
        maker.method("m", "(I[IJ)V");
        maker.addMethod("m", "(I[IJ)V", new Body(2, 4).put(177));
        ClassMaker.Member second = maker.addMethod("n", "()I", five());
        second.attributes.add(new ClassMaker.Attribute(maker.name("Other"), ClassMaker.bytes(9)));
        maker.attributes.add(new ClassMaker.Attribute(maker.name("Source"), ClassMaker.bytes(1, 2)));
        return maker;
    }

    private static byte[] with(byte[] bytes, int place, int... values) {
        byte[] changed = bytes.clone();
        for (int i = 0; i < values.length; i++) {
            changed[place + i] = (byte) values[i];
        }
        return changed;
    }

    private static byte[] pair(byte[] bytes, int place, int value) {
        return with(bytes, place, value >> 8, value);
    }

    private static byte[] four(byte[] bytes, int place, int value) {
        return with(bytes, place, value >> 24, value >> 16, value >> 8, value);
    }

    private static void everyCutGoesBeyondTheFile() {
        byte[] bytes = full().make();
        CodeMachine x = Due.loaded("full", bytes);
        Due.is("size(0)", 3, x.size(0));
        Due.is("size(1)", 2, x.size(1));
        Due.is("size(2)", 3, x.size(2));
        Due.is("size(3)", -1, x.size(3));
        Due.is("size(-1)", -1, x.size(-1));
        for (int n = 0; n < bytes.length; n++) {
            Due.breaks("cut at " + n, 2, n, Arrays.copyOf(bytes, n));
        }
    }

    /** Of a number that the file's end cuts nothing is told but that: not even what its first byte would break. */
    private static void numbersCutInTheMiddle() {
        byte[] bytes = new ClassMaker().make();
        ClassMaker maker = new ClassMaker();
        maker.make();
        int name = maker.entriesAt.get(maker.name("Own"));
        for (int place : new int[] {8, name + 1, maker.fieldsAt, maker.methodsAt, maker.fileAttributesAt}) {
            Due.breaks("a cut number", 2, place + 1, Arrays.copyOf(with(bytes, place, 255), place + 1));
        }
        for (int length : new int[] {0, 101, 255, 256, 32768, 65535}) {
            byte[] wrong = Arrays.copyOf(pair(bytes, name + 1, length), name + 3);
            Due.breaks("a wrong length is there as a whole", 4, name, wrong);
        }
        for (int length : new int[] {1, 100}) {
            byte[] right = Arrays.copyOf(pair(bytes, name + 1, length), name + 3);
            Due.breaks("a right length, and no bytes", 2, name + 3, right);
        }
        ClassMaker last = new ClassMaker();
        last.attributes.add(new ClassMaker.Attribute(last.name("Source"), new byte[0]));
        byte[] attribute = last.make();
        Due.loaded("an attribute of no bytes", attribute);
        Due.breaks("a file's last attribute of one byte more", 2, attribute.length,
            four(attribute, attribute.length - 4, 1));
        Due.breaks("one more attribute", 2, attribute.length, pair(attribute, last.fileAttributesAt, 2));
    }

    private static void theHeadIsAsTold() {
        byte[] bytes = full().make();
        for (int place = 0; place < 8; place++) {
            Due.breaks("head", 1, place, with(bytes, place, bytes[place] ^ 1));
            Due.breaks("head and no more", 1, place, Arrays.copyOf(with(bytes, place, bytes[place] ^ 128), place + 1));
        }
        Due.breaks("a wrong byte later", 1, 2, with(with(bytes, 7, 50), 2, 0));
    }

    private static void tagsAreListed() {
        ClassMaker maker = full();
        byte[] bytes = maker.make();
        int number = maker.number(70000);
        for (int tag = 0; tag < 256; tag++) {
            boolean listed = tag == 1 || tag == 3 || tag == 5 || tag == 7 || tag >= 9 && tag <= 10 || tag == 12;
            if (!listed) {
                int place = maker.entriesAt.get(number);
                Due.breaks("tag " + tag, 3, place, with(bytes, place, tag));
                Due.breaks("tag " + tag + " at the end", 3, place, Arrays.copyOf(with(bytes, place, tag), place + 1));
            }
        }
    }

    private static void namesAreShortAndVisible() {
        for (int sign = 0; sign < 256; sign++) {
            ClassMaker maker = full();
            int number = maker.rawName("a" + (char) sign);
            byte[] bytes = maker.make();
            if (sign >= 33 && sign <= 126) {
                Due.loaded("sign " + sign, bytes);
            } else {
                Due.breaks("sign " + sign, 4, maker.entriesAt.get(number), bytes);
            }
        }
        for (int length : new int[] {0, 1, 99, 100, 101, 300}) {
            ClassMaker maker = full();
            int number = maker.rawName("x".repeat(length));
            byte[] bytes = maker.make();
            if (length >= 1 && length <= 100) {
                Due.loaded("length " + length, bytes);
            } else {
                Due.breaks("length " + length, 4, maker.entriesAt.get(number), bytes);
            }
        }
    }

    private static void countsAreBounded() {
        for (int count : new int[] {499, 500, 501, 600}) {
            ClassMaker maker = full();
            while (maker.entries.size() + 1 < count) {
                maker.entry(3, 0, 0, 0, 0);
            }
            if (count <= 500) {
                Due.loaded("pool " + count, maker);
            } else {
                Due.breaks("pool " + count, 5, 8, maker.make());
            }
        }
        byte[] bytes = full().make();
        Due.breaks("pool 0", 5, 8, pair(bytes, 8, 0));
        Due.breaks("pool 65535", 5, 8, pair(bytes, 8, 65535));
        for (int count : new int[] {24, 25, 30}) {
            ClassMaker fields = new ClassMaker();
            ClassMaker methods = new ClassMaker();
            for (int k = 0; k < count; k++) {
                fields.addField("f" + k, "I");
                methods.addMethod("m" + k, "()I", five());
            }
            byte[] withFields = fields.make();
            byte[] withMethods = methods.make();
            if (count <= 24) {
                Due.is("size(0)", count, Due.loaded("fields", withFields).size(0));
                Due.is("size(1)", count, Due.loaded("methods", withMethods).size(1));
            } else {
                Due.breaks("fields", 5, fields.fieldsAt, withFields);
                Due.breaks("methods", 5, methods.methodsAt, withMethods);
            }
        }
        ClassMaker none = new ClassMaker();
        CodeMachine x = Due.loaded("no members", none);
        Due.is("size(0)", 0, x.size(0));
        Due.is("size(1)", 0, x.size(1));
        Due.is("size(2)", 0, x.size(2));
        Due.is("run()", -1, x.run(0, 1));
        longEndsThePool();
        Due.breaks("no pool at the end", 5, 8, Arrays.copyOf(pair(bytes, 8, 0), 10));
        Due.breaks("too large a pool at the end", 5, 8, Arrays.copyOf(pair(bytes, 8, 501), 10));
        Due.breaks("a pool at the end", 2, 10, Arrays.copyOf(pair(bytes, 8, 1), 10));
        ClassMaker empty = new ClassMaker();
        empty.entries.clear();
        Due.breaks("a pool of no entries", 8, 12, empty.make());
        ClassMaker many = new ClassMaker();
        many.make();
        Due.breaks("too many fields at the end", 5, many.fieldsAt,
            Arrays.copyOf(pair(many.make(), many.fieldsAt, 25), many.fieldsAt + 2));
        Due.breaks("too many methods at the end", 5, many.methodsAt,
            Arrays.copyOf(pair(many.make(), many.methodsAt, 25), many.methodsAt + 2));
    }

    /** The pool may end with a long: its second number is no entry, and is not asked for. */
    private static void longEndsThePool() {
        ClassMaker maker = ClassMaker.of("()I", five());
        int number = maker.number(5L);
        Due.loaded("long at the end", maker);
        maker.poolCount = number + 1;
        Due.loaded("long's first number is the last", maker);
        maker.own = number + 1;
        Due.breaks("behind a long there is no entry", 8, maker.headAt + 2, maker.make());
    }

    private static void theFirstPlaceIsTold() {
        ClassMaker maker = full();
        byte[] bytes = maker.make();
        int tag = maker.entriesAt.get(maker.name("f"));
        int later = maker.entriesAt.get(maker.name("g"));
        Due.breaks("tag before name", 3, tag, with(with(bytes, tag, 2), later + 3, 32));
        Due.breaks("name before tag", 4, tag, with(with(bytes, tag + 3, 32), later, 2));
        Due.breaks("name before the end", 4, tag, Arrays.copyOf(with(bytes, tag + 3, 32), later));
        Due.breaks("tag before fields", 3, tag, pair(with(bytes, tag, 2), maker.fieldsAt, 25));
        Due.breaks("fields before methods", 5, maker.fieldsAt, pair(pair(bytes, maker.fieldsAt, 25), maker.methodsAt, 25));
        Due.breaks("head before pool", 1, 7, pair(with(bytes, 7, 48), 8, 0));
        int attribute = maker.fields.get(0).attributesAt.get(0);
        Due.breaks("a long attribute", 2, bytes.length, four(bytes, attribute + 2, bytes.length));
        Due.breaks("a very long attribute", 2, bytes.length, four(bytes, attribute + 2, -1));
        Due.breaks("an attribute of 2^31", 2, bytes.length, four(bytes, attribute + 2, Integer.MIN_VALUE));
        Due.breaks("many attributes", 2, bytes.length, pair(bytes, maker.fileAttributesAt, 65535));
    }

    private static void entriesPointToTheirSort() {
        int[][] sorts = {{7, 1}, {12, 1, 1}, {9, 7, 12}, {10, 7, 12}};
        for (int[] sort : sorts) {
            for (int part = 1; part < sort.length; part++) {
                for (int wrong : new int[] {0, 1, 3, 5, 7, 9, 10, 12, -1, -2}) {
                    pointsWith(sort, part, wrong);
                }
            }
        }
    }

    private static void pointsWith(int[] sort, int part, int sortOfOther) {
        ClassMaker maker = full();
        int[] numbers = numbersOfSorts(maker);
        int tag = sort[0];
        int[] entry = new int[1 + 2 * (sort.length - 1)];
        entry[0] = tag;
        for (int p = 1; p < sort.length; p++) {
            int number = numbers[sort[p]];
            if (p == 2 && tag == 10) {
                number = maker.pair(maker.name("m"), maker.name("()I"));
            }
            if (p == part) {
                number = sortOfOther >= 0 ? numbers[sortOfOther] : sortOfOther == -1 ? 60000 : maker.number(1L << 40) + 1;
            }
            if (p == part && sortOfOther == 12 && tag == 10) {
                number = maker.pair(maker.name("m"), maker.name("()I"));
            }
            entry[2 * p - 1] = number >> 8;
            entry[2 * p] = number;
        }
        int number = maker.entry(entry);
        byte[] bytes = maker.make();
        if (sortOfOther == sort[part]) {
            Due.loaded("entry " + tag, bytes);
        } else {
            Due.breaks("entry " + tag + " part " + part + " to " + sortOfOther, 6, maker.entriesAt.get(number), bytes);
        }
    }

    /** The first entry is looked at as all others are. */
    private static void theFirstEntryPoints() {
        for (int tag : new int[] {7, 9, 10, 12}) {
            ClassMaker maker = new ClassMaker();
            maker.entries.set(0, tag == 7 ? ClassMaker.bytes(7, 0, 1) : ClassMaker.bytes(tag, 0, 1, 0, 1));
            Due.breaks("the first entry", 6, 10, maker.make());
        }
        ClassMaker maker = full();
        byte[] first = maker.entries.get(0);
        int name = maker.entry(1, 0, 3, 'O', 'w', 'n');
        maker.entries.set(1, ClassMaker.bytes(7, name >> 8, name));
        int pair = maker.pair(maker.name("f"), maker.name("()I"));
        maker.entries.set(0, ClassMaker.bytes(9, 0, 2, pair >> 8, pair));
        Due.breaks("the type of the first entry", 10, 10, maker.make());
        Due.is("it was a NAME", 1, first[0]);
    }

    /** Numbers go to n - 1: the last entry is one, n is none, and neither is 0. */
    private static void numbersOfTheLastEntry() {
        ClassMaker maker = new ClassMaker();
        int name = maker.name("Last");
        maker.own = maker.entry(7, 0, name);
        byte[] bytes = maker.make();
        int last = maker.entries.size();
        Due.is("the last entry", last, maker.own);
        Due.loaded("the last entry is the class", bytes);
        Due.breaks("behind the last entry", 8, maker.headAt + 2, pair(bytes, maker.headAt + 2, last + 1));
        int tag = maker.entriesAt.get(last);
        Due.loaded("to the entry before", pair(bytes, tag + 1, last - 1));
        Due.breaks("to itself", 6, tag, pair(bytes, tag + 1, last));
        Due.breaks("to n", 6, tag, pair(bytes, tag + 1, last + 1));
        Due.breaks("to 0", 6, tag, pair(bytes, tag + 1, 0));
        Due.breaks("to 65535", 6, tag, pair(bytes, tag + 1, 65535));
        ClassMaker later = new ClassMaker();
        ClassMaker.Member field = later.addField("f", "I");
        field.name = later.rawName("g");
        byte[] named = later.make();
        Due.loaded("the last entry is a name", named);
        Due.breaks("n is no name", 9, field.at + 2, pair(named, field.at + 2, field.name + 1));
    }

    private static int[] numbersOfSorts(ClassMaker maker) {
        int[] numbers = new int[13];
        numbers[1] = maker.name("I");
        numbers[3] = maker.number(70000);
        numbers[5] = maker.number(1L << 40);
        numbers[7] = maker.type("Own");
        numbers[9] = maker.field("f", "I");
        numbers[10] = maker.method("m", "()I");
        numbers[12] = maker.pair(maker.name("f"), maker.name("I"));
        return numbers;
    }

    private static void flagsAreAsTold() {
        ClassMaker maker = full();
        byte[] bytes = maker.make();
        for (int flags : new int[] {0, 1, 8, 9, 32, 33, 265, 289, 65535}) {
            if (flags != 33) {
                Due.breaks("class flags", 7, maker.headAt, pair(bytes, maker.headAt, flags));
            }
            if (flags != 9) {
                int field = maker.fields.get(1).at;
                int method = maker.methods.get(1).at;
                Due.breaks("field flags", 7, field, pair(bytes, field, flags));
                Due.breaks("method flags", 7, method, pair(bytes, method, flags));
                Due.breaks("both", 7, field, pair(pair(bytes, method, flags), field, flags));
            }
        }
    }

    private static void classesAreClasses() {
        ClassMaker maker = full();
        byte[] bytes = maker.make();
        for (int place = maker.headAt + 2; place <= maker.headAt + 4; place += 2) {
            for (int number : new int[] {0, maker.name("Own"), maker.number(70000), 500, 65535}) {
                Due.breaks("class", 8, place, pair(bytes, place, number));
            }
        }
        Due.breaks("0 behind", 8, maker.headAt + 6, pair(bytes, maker.headAt + 6, 1));
        Due.breaks("0 behind", 8, maker.headAt + 6, pair(bytes, maker.headAt + 6, 256));
        Due.breaks("the first", 8, maker.headAt + 2, pair(pair(bytes, maker.headAt + 6, 1), maker.headAt + 2, 0));
        Due.loaded("above itself", pair(bytes, maker.headAt + 4, maker.own));
    }

    private static void namesAreNames() {
        ClassMaker maker = full();
        byte[] bytes = maker.make();
        int[] places = {maker.fields.get(0).at + 2, maker.fields.get(0).at + 4, maker.fields.get(0).attributesAt.get(0),
            maker.fields.get(0).attributesAt.get(1), maker.fields.get(2).at + 2, maker.methods.get(0).at + 2,
            maker.methods.get(0).at + 4, maker.methods.get(0).attributesAt.get(0),
            maker.methods.get(1).attributesAt.get(1), maker.attributesAt.get(0)};
        for (int i = 0; i < places.length; i++) {
            for (int number : new int[] {0, maker.own, 500, 65535}) {
                byte[] wrong = pair(bytes, places[i], number);
                Due.breaks("name " + i, 9, places[i], wrong);
                for (int later = i + 1; later < places.length; later++) {
                    Due.breaks("names", 9, places[i], pair(wrong, places[later], number));
                }
            }
        }
    }

    private static void typesAreTypes() {
        for (String type : new String[] {"I", "J", "[I", "V", "[J", "[[I", "Z", "[", "II", "I]", "LOwn;", "[II", "i", "()I"}) {
            boolean right = type.equals("I") || type.equals("J") || type.equals("[I");
            ClassMaker declared = full();
            declared.addField("k", type);
            byte[] bytes = declared.make();
            ClassMaker pointed = full();
            int number = pointed.field("other", type);
            byte[] pointedBytes = pointed.make();
            if (right) {
                Due.loaded("type " + type, bytes);
                Due.loaded("pair type " + type, pointedBytes);
            } else {
                Due.breaks("type " + type, 10, declared.fields.get(3).at + 4, bytes);
                Due.breaks("pair type " + type, 10, pointed.entriesAt.get(number), pointedBytes);
            }
        }
        for (String type : new String[] {"()I", "()J", "()[I", "()V", "(I)V", "(JJJJ)V", "([II[IIIIII)I", "(J[IJIJ)V"}) {
            methodType(type, true);
        }
        for (String type : new String[] {"I", "(", ")", "()", "()VV", "(V)V", "()IV", "()[J", "([)I", "(I", "(IV", "()[",
            "((I)I)I", "I()I", "()I ".trim() + ")", "(L)I", "([[I)V", "(I)Z", "()[V", "(I[)V", "[I", "I)V", "))V", "x)V", "(()V",
            "()", "()J)", "(I I)V".replace(' ', '.'), "()V.", "(V", "()[", "([", "(J", "()[[I", "([[I)I", "()i", "V", "J"}) {
            methodType(type, false);
        }
        Due.loaded("a PAIR of no one", withPair("any", "thing"));
        parametersTakeEightPlaces();
        typesComeFromTheLeft();
    }

    private static ClassMaker withPair(String name, String type) {
        ClassMaker maker = full();
        maker.pair(maker.name(name), maker.name(type));
        return maker;
    }

    private static void methodType(String type, boolean right) {
        ClassMaker declared = full();
        declared.addMethod("k", type, new Body(2, 12).label("a").jump(167, "a"));
        byte[] bytes = declared.make();
        ClassMaker pointed = full();
        int number = pointed.method("other", type);
        byte[] pointedBytes = pointed.make();
        if (right) {
            Due.loaded("method's type " + type, bytes);
            Due.loaded("pair's method's type " + type, pointedBytes);
        } else {
            Due.breaks("method's type " + type, 10, declared.methods.get(2).at + 4, bytes);
            Due.breaks("pair's method's type " + type, 10, pointed.entriesAt.get(number), pointedBytes);
        }
    }

    private static void parametersTakeEightPlaces() {
        for (String type : new String[] {"(IIIIIIIII)V", "(JJJJI)V", "(JJJJJ)V", "(I[IIIIIIJ)V"}) {
            ClassMaker maker = full();
            maker.addMethod("k", type, new Body(0, 20).put(177));
            byte[] bytes = maker.make();
            Due.breaks(type, 10, maker.methods.get(2).at + 4, bytes);
            ClassMaker pointed = full();
            pointed.method("other", type);
            Due.loaded("a PAIR's type may have more: " + type, pointed);
        }
    }

    private static void typesComeFromTheLeft() {
        ClassMaker maker = full();
        int method = maker.method("q", "I");
        int field = maker.field("q", "()I");
        maker.addField("k", "Z");
        byte[] bytes = maker.make();
        Due.breaks("the pool first", 10, maker.entriesAt.get(method), bytes);
        Due.is("in its order", true, method < field);
    }

    private static void namesDiffer() {
        ClassMaker maker = full();
        maker.addField("g", "I");
        maker.addMethod("n", "(I)V", new Body(0, 1).put(177));
        byte[] bytes = maker.make();
        Due.breaks("two fields", 11, maker.fields.get(3).at + 2, bytes);
        ClassMaker methods = full();
        methods.addMethod("o", "(I)V", new Body(0, 1).put(177));
        methods.addMethod("n", "(I)V", new Body(0, 1).put(177));
        methods.addMethod("m", "(I)V", new Body(0, 1).put(177));
        byte[] methodBytes = methods.make();
        Due.breaks("two methods", 11, methods.methods.get(3).at + 2, methodBytes);
        for (int again = 0; again < 3; again++) {
            nameAgain(again);
        }
        ClassMaker shared = full();
        shared.addField("m", "I");
        Due.loaded("a field and a method", shared);
        ClassMaker other = full();
        ClassMaker.Member again = other.addField("unused", "I");
        again.name = other.rawName("h");
        byte[] otherBytes = other.make();
        Due.breaks("the same text of another NAME", 11, again.at + 2, otherBytes);
    }

    /** Of three members the last two get the name of the one with this number, if it is earlier. */
    private static void nameAgain(int again) {
        ClassMaker maker = new ClassMaker();
        for (int k = 0; k < 3; k++) {
            maker.addField("f" + (k > again ? again : k), new String[] {"I", "J", "[I"}[k]);
            maker.addMethod("f" + k, "()I", five());
        }
        byte[] bytes = maker.make();
        ClassMaker methods = new ClassMaker();
        for (int k = 0; k < 3; k++) {
            methods.addField("f" + k, "I");
            methods.addMethod("f" + (k > again ? again : k), "(" + "I".repeat(k) + ")V", new Body(0, 2).put(177));
        }
        byte[] methodBytes = methods.make();
        if (again == 2) {
            Due.loaded("three names", bytes);
            Due.loaded("three names", methodBytes);
        } else {
            Due.breaks("the later field", 11, maker.fields.get(again + 1).at + 2, bytes);
            Due.breaks("the later method", 11, methods.methods.get(again + 1).at + 2, methodBytes);
        }
    }

    private static void codeIsThereOnce() {
        ClassMaker none = full();
        none.methods.get(1).attributes.remove(0);
        byte[] bytes = none.make();
        Due.breaks("no Code", 12, none.methods.get(1).at, bytes);
        ClassMaker two = full();
        two.methods.get(0).attributes.add(two.methods.get(0).attributes.get(0));
        byte[] twoBytes = two.make();
        Due.breaks("two Codes", 12, two.methods.get(0).at, twoBytes);
        ClassMaker renamed = full();
        ClassMaker.Attribute old = renamed.methods.get(0).attributes.remove(0);
        renamed.methods.get(0).attributes.add(new ClassMaker.Attribute(renamed.name("code"), old.bytes()));
        renamed.methods.get(0).attributes.add(new ClassMaker.Attribute(renamed.name("Codes"), old.bytes()));
        byte[] renamedBytes = renamed.make();
        Due.breaks("other names", 12, renamed.methods.get(0).at, renamedBytes);
        ClassMaker last = full();
        last.methods.get(0).attributes.add(0, new ClassMaker.Attribute(last.rawName("Other"), new byte[5]));
        last.attributes.add(last.methods.get(1).attributes.get(0));
        Due.loaded("Code as the second attribute, and a file's one", last);
        ClassMaker text = full();
        ClassMaker.Attribute code = text.methods.get(1).attributes.remove(0);
        text.methods.get(1).attributes.add(new ClassMaker.Attribute(text.rawName("Code"), code.bytes()));
        Due.loaded("another NAME with this text", text);
        ClassMaker own = full();
        own.methods.get(0).attributes.clear();
        own.attributes.add(new ClassMaker.Attribute(own.name("Code"), five().bytes()));
        own.methods.get(1).attributes.add(new ClassMaker.Attribute(own.name("Code"), five().bytes()));
        byte[] ownBytes = own.make();
        Due.breaks("Code of a field, of the file, or of another method", 12, own.methods.get(0).at, ownBytes);
    }

    private static void nothingStandsBehind() {
        for (int behind : new int[] {1, 2, 30}) {
            ClassMaker maker = full();
            int end = maker.make().length;
            maker.behind = behind;
            Due.breaks("behind the file", 17, end, maker.make());
        }
    }

    private static void sizesOfCode() {
        ClassMaker maker = full();
        byte[] bytes = maker.make();
        int code = maker.codeAt(0);
        Due.loaded("24 on the stack", pair(bytes, code - 8, 24));
        Due.breaks("25 on the stack", 13, code - 8, pair(bytes, code - 8, 25));
        Due.breaks("65535 on the stack", 13, code - 8, pair(bytes, code - 8, 65535));
        Due.loaded("24 locals", pair(bytes, code - 6, 24));
        Due.breaks("25 locals", 13, code - 6, pair(bytes, code - 6, 25));
        Due.breaks("3 locals for 4 places", 13, code - 6, pair(bytes, code - 6, 3));
        Due.breaks("no code", 13, code - 4, four(bytes, code - 4, 0));
        Due.breaks("1201 bytes of code", 13, code - 4, four(bytes, code - 4, 1201));
        Due.breaks("-1 bytes of code", 13, code - 4, four(bytes, code - 4, -1));
        Due.breaks("a code that goes beyond", 14, code + 5, four(bytes, code - 4, 1200));
        Due.breaks("17 catches", 13, code + 1, pair(bytes, code + 1, 17));
        Due.breaks("16 catches that aren't there", 14, code + 5, pair(bytes, code + 1, 16));
        Body most = new Body(1, 0);
        for (int i = 0; i < 1199; i++) {
            most.put(0);
        }
        Due.is("size(2)", 1200, Due.loaded("1200 bytes", ClassMaker.of("()V", most.put(177))).size(2));
        Body catches = new Body(1, 0).label("a").put(177).label("b").put(177);
        for (int i = 0; i < 16; i++) {
            catches.caught("a", "b", "b", 0);
        }
        Due.loaded("16 catches", ClassMaker.of("()V", catches));
        Due.is("size(2)", 1, Due.loaded("one byte, no stack, no locals", ClassMaker.of("()V", new Body(0, 0).put(177))).size(2));
        localsHoldTheParameters();
        twoMethodsInOrder();
    }

    private static void localsHoldTheParameters() {
        String[] types = {"()V", "(I)V", "([I)V", "(J)V", "(IJ)V", "([I[IJ)V", "(JJJ)V", "(IIIIIIII)V", "(JJJJ)V"};
        int[] places = {0, 1, 1, 2, 3, 4, 6, 8, 8};
        for (int t = 0; t < types.length; t++) {
            for (int locals = 0; locals <= 26; locals++) {
                ClassMaker maker = ClassMaker.of(types[t], new Body(0, locals).put(177));
                byte[] bytes = maker.make();
                if (locals >= places[t] && locals <= 24) {
                    Due.loaded(types[t] + " in " + locals, bytes);
                } else {
                    Due.breaks(types[t] + " in " + locals, 13, maker.codeAt(0) - 6, bytes);
                }
            }
        }
    }

    private static void twoMethodsInOrder() {
        ClassMaker maker = full();
        byte[] bytes = maker.make();
        int first = maker.codeAt(0);
        int second = maker.codeAt(1);
        byte[] both = pair(pair(bytes, second - 8, 25), first + 3, 1);
        Due.breaks("rule 14 of the first before 13 of the second", 14, first + 5, both);
        Due.breaks("the other way", 13, first - 8, pair(pair(bytes, first - 8, 25), second + 4, 1));
        byte[] none = with(bytes, first, 186);
        Due.breaks("rule 13 of the second before 15 of the first", 13, second - 6, pair(none, second - 6, 25));
        Due.breaks("rule 14 of the second before 15 of the first", 14, second + 6, pair(none, second + 4, 1));
        Due.breaks("13 is further left than 14", 13, first - 6, pair(pair(bytes, first + 3, 1), first - 6, 3));
        Due.breaks("14 is further left than 13 of the next", 14, first + 5, pair(pair(bytes, first + 3, 1), second - 8, 25));
    }

    private static void itemsOfCode() {
        byte[] content = new Body(2, 4).label("a").put(0, 177).label("b").put(177).caught("a", "b", "b", 0).bytes();
        for (int length = 0; length < content.length; length++) {
            ClassMaker maker = codeOf(Arrays.copyOf(content, length));
            byte[] bytes = maker.make();
            Due.breaks("Code cut at " + length, 14, maker.codeAt(0) - 8 + length, bytes);
        }
        for (int more : new int[] {1, 2, 8}) {
            ClassMaker maker = codeOf(Arrays.copyOf(content, content.length + more));
            byte[] bytes = maker.make();
            Due.breaks("surplus " + more, 14, maker.codeAt(0) - 8 + content.length, bytes);
        }
        numbersAtTheEndOfCode(content);
        Due.loaded("an attribute in Code", codeOf(withAttribute(content, 0, 3, 3)));
        Due.loaded("its name is not looked at", codeOf(withAttribute(content, 65535, 3, 3)));
        ClassMaker beyond = codeOf(withAttribute(content, 1, 4, 3));
        byte[] bytes = beyond.make();
        Due.breaks("it goes beyond", 14, beyond.codeAt(0) - 8 + content.length + 9, bytes);
        ClassMaker far = codeOf(withAttribute(content, 1, -1, 3));
        bytes = far.make();
        Due.breaks("it goes far beyond", 14, far.codeAt(0) - 8 + content.length + 9, bytes);
        ClassMaker behind = codeOf(withAttribute(content, 1, 2, 3));
        bytes = behind.make();
        Due.breaks("something stands behind it", 14, behind.codeAt(0) - 8 + content.length + 8, bytes);
    }

    /** A number that Code ends in is told by 14, whatever stands behind Code; one that is there as a whole by 13. */
    private static void numbersAtTheEndOfCode(byte[] content) {
        int[] places = {0, 2, 4, 11};
        int[] widths = {2, 2, 4, 2};
        for (int p = 0; p < places.length; p++) {
            for (int cut = 1; cut <= widths[p]; cut++) {
                byte[] shorter = Arrays.copyOf(content, places[p] + cut);
                Arrays.fill(shorter, places[p], places[p] + cut, (byte) 255);
                ClassMaker maker = codeOf(shorter);
                maker.methods.get(0).attributes.add(new ClassMaker.Attribute(maker.name("Other"), new byte[] {-1, -1, -1}));
                byte[] bytes = maker.make();
                int begin = maker.codeAt(0) - 8;
                if (cut < widths[p]) {
                    Due.breaks("a number cut by the end of Code", 14, begin + shorter.length, bytes);
                } else {
                    Due.breaks("a wrong number at the end of Code", 13, begin + places[p], bytes);
                }
            }
        }
    }

    private static ClassMaker codeOf(byte[] content) {
        ClassMaker maker = new ClassMaker();
        maker.addMethod("m", "()V", new Body(0, 0).put(177));
        maker.methods.get(0).attributes.set(0, new ClassMaker.Attribute(maker.name("Code"), content));
        return maker;
    }

    private static byte[] withAttribute(byte[] content, int name, int length, int bytes) {
        byte[] longer = Arrays.copyOf(content, content.length + 6 + bytes);
        longer[content.length - 1] = 1;
        return four(pair(longer, content.length, name), content.length + 2, length);
    }

    /** Of two faults that of the lower rule is told, 17 between 12 and 13, wherever they are. */
    private static void rulesComeInTheirOrder() {
        ClassMaker maker = full();
        byte[] bytes = maker.make();
        int[][] faults = {
            {6, maker.entriesAt.get(maker.type("Own")), 7, 0, 0},
            {7, maker.methods.get(1).at, 0, 0},
            {8, maker.headAt + 6, 0, 9},
            {9, maker.methods.get(0).at + 2, 0, 0},
            {10, maker.fields.get(0).at + 4, maker.name("f") >> 8, maker.name("f")},
            {11, maker.fields.get(1).at + 2, maker.name("f") >> 8, maker.name("f")},
            {12, maker.methods.get(0).at, -1},
            {17, bytes.length, -2},
            {13, maker.codeAt(0) - 8, 0, 25},
            {15, maker.codeAt(0), 186},
            {16, maker.codeAt(1), 21},
        };
        for (int i = 0; i < faults.length; i++) {
            for (int j = i + 1; j < faults.length; j++) {
                byte[] wrong = spoil(maker, spoil(maker, bytes, faults[j]), faults[i]);
                Due.breaks("rules " + faults[i][0] + " and " + faults[j][0], faults[i][0], faults[i][1], wrong);
            }
            Due.breaks("rule " + faults[i][0], faults[i][0], faults[i][1], spoil(maker, bytes, faults[i]));
        }
    }

    private static byte[] spoil(ClassMaker maker, byte[] bytes, int[] fault) {
        if (fault[2] == -1) {
            return pair(bytes, maker.methods.get(0).attributesAt.get(0), maker.name("f"));
        }
        if (fault[2] == -2) {
            return Arrays.copyOf(bytes, bytes.length + 1);
        }
        return with(bytes, fault[1], Arrays.copyOfRange(fault, 2, fault.length));
    }
}
