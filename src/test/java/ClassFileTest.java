import java.io.ByteArrayInputStream;
import java.io.DataInputStream;
import java.io.IOException;
import java.io.InputStream;
import java.util.ArrayList;
import java.util.List;
import java.util.Map;
import java.util.Set;
import java.util.TreeMap;
import java.util.TreeSet;

/**
 * Those rules of LANGUAGE.md that can be seen in the compiled class: what it calls (4), that it neither throws nor catches
 * (6), what it divides by (7), that no call stands within itself (8), how deep calls go (11), where objects are made (12).
 */
public final class ClassFileTest {
    private static final Check CHECK = new Check();
    private static final int MOST_DEEP = 8;
    private static final Set<String> LIBRARY = Set.of("java/lang/Object.<init>()V", "java/lang/Math.min(II)I",
        "java/lang/Math.max(II)I", "java/lang/Integer.bitCount(I)I", "java/lang/String.length()I",
        "java/lang/String.charAt(I)C", "java/lang/String.indexOf(I)I");
    private static final int BIPUSH = 16;
    private static final int SIPUSH = 17;
    private static final int IDIV = 108;
    private static final int LDIV = 109;
    private static final int IREM = 112;
    private static final int LREM = 113;
    private static final int TABLESWITCH = 170;
    private static final int LOOKUPSWITCH = 171;
    private static final int INVOKEVIRTUAL = 182;
    private static final int INVOKEINTERFACE = 185;
    private static final int NEW = 187;
    private static final int NEWARRAY = 188;
    private static final int ANEWARRAY = 189;
    private static final int WIDE = 196;
    private static final int MULTIANEWARRAY = 197;
    /** Subroutines, dynamic calls, athrow, casts, instanceof, monitors. */
    private static final Set<Integer> RULED_OUT = Set.of(168, 169, 186, 191, 192, 193, 194, 195);

    private final Map<String, Set<String>> calls = new TreeMap<>();
    private final Map<String, Integer> depths = new TreeMap<>();
    private final String[] names = new String[65536];
    private String method;
    private int divisions;
    private int made;

    public static void main(String[] args) throws IOException {
        ClassFileTest test = new ClassFileTest();
        test.read(NoonRinger.class);
        for (Class<?> c : NoonRinger.class.getDeclaredClasses()) {
            test.read(c);
        }
        test.depths();
        CHECK.due("divisions were looked at", test.divisions > 3, true);
        CHECK.due("new objects were looked at", test.made > 20, true);
        CHECK.end();
    }

    private void read(Class<?> c) throws IOException {
        try (InputStream in = c.getResourceAsStream(c.getName() + ".class"); DataInputStream data = new DataInputStream(in)) {
            data.skipBytes(8);
            readConstants(data);
            data.skipBytes(2);
            String name = names[data.readUnsignedShort()];
            data.skipBytes(2);
            data.skipBytes(2 * data.readUnsignedShort());
            readMembers(data, name);
            readMembers(data, name);
        }
    }

    /** Classes by their names, methods as class.name(parameters)result, texts and numbers as they are. */
    private void readConstants(DataInputStream data) throws IOException {
        int count = data.readUnsignedShort();
        int[] first = new int[count];
        int[] second = new int[count];
        for (int i = 1; i < count; i++) {
            int tag = data.readUnsignedByte();
            names[i] = tag == 1 ? data.readUTF() : null;
            if (tag == 7 || tag == 8) {
                first[i] = data.readUnsignedShort();
            } else if (tag == 5 || tag == 6) {
                data.skipBytes(8);
                i++;
            } else if (tag != 1) {
                first[i] = data.readUnsignedShort();
                second[i] = data.readUnsignedShort();
            }
        }
        for (int round = 0; round < 3; round++) {
            for (int i = 1; i < count; i++) {
                if (names[i] == null && second[i] == 0 && first[i] > 0) {
                    names[i] = names[first[i]];
                } else if (names[i] == null && first[i] > 0 && first[i] < count && second[i] < count
                    && names[first[i]] != null && names[second[i]] != null) {
                    boolean isMember = names[second[i]].contains(" ");
                    names[i] = isMember ? names[first[i]] + "." + names[second[i]].replace(" ", "") : names[first[i]] + " " + names[second[i]];
                }
            }
        }
    }

    private void readMembers(DataInputStream data, String owner) throws IOException {
        for (int members = data.readUnsignedShort(); members > 0; members--) {
            data.skipBytes(2);
            method = owner + "." + names[data.readUnsignedShort()] + names[data.readUnsignedShort()];
            for (int attributes = data.readUnsignedShort(); attributes > 0; attributes--) {
                String attribute = names[data.readUnsignedShort()];
                byte[] bytes = new byte[data.readInt()];
                data.readFully(bytes);
                if (attribute.equals("Code")) {
                    calls.put(method, new TreeSet<>());
                    readCode(new DataInputStream(new ByteArrayInputStream(bytes)));
                }
            }
        }
    }

    private void readCode(DataInputStream data) throws IOException {
        data.skipBytes(4);
        byte[] code = new byte[data.readInt()];
        data.readFully(code);
        CHECK.due("catches in " + method, data.readUnsignedShort(), 0);
        int before = 0;
        for (int at = 0; at < code.length; at += lengthAt(code, at)) {
            int op = code[at] & 255;
            CHECK.due("instruction " + op + " in " + method, RULED_OUT.contains(op), false);
            if (op >= INVOKEVIRTUAL && op <= INVOKEINTERFACE) {
                calls.get(method).add(names[shortAt(code, at + 1)]);
            }
            if (op == NEW || op == NEWARRAY || op == ANEWARRAY || op == MULTIANEWARRAY) {
                made++;
                CHECK.due("made outside of a constructor, in " + method, method.contains("<init>"), true);
            }
            if (op == IDIV || op == IREM || op == LDIV || op == LREM) {
                divisions++;
                boolean byConstant = before == BIPUSH || before == SIPUSH || before > 3 && before < 9 || before == 2;
                CHECK.due("what is divided by in " + method, byConstant || method.contains("Laws.joined("), true);
            }
            before = op;
        }
    }

    private static int shortAt(byte[] code, int at) {
        return (code[at] & 255) << 8 | code[at + 1] & 255;
    }

    private static int intAt(byte[] code, int at) {
        return shortAt(code, at) << 16 | shortAt(code, at + 2);
    }

    private static int lengthAt(byte[] code, int at) {
        int op = code[at] & 255;
        int aligned = (at + 4) / 4 * 4;
        if (op == TABLESWITCH) {
            return aligned + 12 + 4 * (intAt(code, aligned + 8) - intAt(code, aligned + 4) + 1) - at;
        }
        if (op == LOOKUPSWITCH) {
            return aligned + 8 + 8 * intAt(code, aligned + 4) - at;
        }
        if (op == WIDE) {
            return (code[at + 1] & 255) == 132 ? 6 : 4;
        }
        if (op == BIPUSH || op == 18 || op >= 21 && op <= 25 || op >= 54 && op <= 58 || op == NEWARRAY) {
            return 2;
        }
        if (op == SIPUSH || op == 19 || op == 20 || op == 132 || op >= 153 && op <= 168 || op >= 178 && op <= 184
            || op == NEW || op == ANEWARRAY || op == 192 || op == 193 || op == 198 || op == 199) {
            return 3;
        }
        if (op == MULTIANEWARRAY) {
            return 4;
        }
        return op == INVOKEINTERFACE || op == 186 || op == 200 || op == 201 ? 5 : 1;
    }

    private void depths() {
        CHECK.due("methods were looked at", calls.size() > 100, true);
        for (String name : calls.keySet()) {
            for (String called : calls.get(name)) {
                boolean isKnown = calls.containsKey(called) || LIBRARY.contains(called);
                CHECK.due(name + " calls " + called, isKnown, true);
            }
            CHECK.due("calls within " + name + " go some " + MOST_DEEP + " deep", depthOf(name, new ArrayList<>()) <= MOST_DEEP, true);
        }
    }

    private int depthOf(String name, List<String> within) {
        CHECK.due("a call of " + name + " within itself: " + within, within.contains(name), false);
        if (!calls.containsKey(name) || within.contains(name)) {
            return 0;
        }
        if (!depths.containsKey(name)) {
            within.add(name);
            int most = 0;
            for (String called : calls.get(name)) {
                most = Math.max(most, depthOf(called, within));
            }
            within.remove(name);
            depths.put(name, most + 1);
        }
        return depths.get(name);
    }
}
