import java.io.ByteArrayInputStream;
import java.io.DataInputStream;
import java.io.IOException;
import java.nio.ByteBuffer;
import java.util.ArrayList;
import java.util.LinkedHashMap;
import java.util.List;
import java.util.Map;

/** What a class file tells of its methods: whom each one calls, and which instructions it has. */
final class ClassFile {
    static final int NEW = 187, NEWARRAY = 188, ANEWARRAY = 189, ATHROW = 191, MONITORENTER = 194, MULTIANEWARRAY = 197;
    private static final int TABLESWITCH = 170, LOOKUPSWITCH = 171, INVOKEVIRTUAL = 182, INVOKEDYNAMIC = 186;
    private static final int IINC = 132, WIDE = 196;
    // The bytes of each instruction, from 0 on: how many of them have so many; 0: it tells by itself.
    private static final int[][] LENGTHS = {{16, 1}, {1, 2}, {1, 3}, {1, 2}, {2, 3}, {5, 2}, {28, 1}, {5, 2}, {73, 1}, {1, 3},
        {20, 1}, {16, 3}, {1, 2}, {2, 0}, {6, 1}, {7, 3}, {2, 5}, {1, 3}, {1, 2}, {1, 3}, {2, 1}, {2, 3}, {2, 1}, {1, 0},
        {1, 4}, {2, 3}, {2, 5}};

    /** One method: those it calls (class.name:descriptor), its instructions, how many exceptions it catches. */
    static final class Method {
        final List<String> calls = new ArrayList<>();
        final List<Integer> instructions = new ArrayList<>();
        int caught;
    }

    final Map<String, Method> methods = new LinkedHashMap<>();
    private final DataInputStream in;
    private Object[] texts;
    private int[][] pairs;

    ClassFile(byte[] bytes) throws IOException {
        in = new DataInputStream(new ByteArrayInputStream(bytes));
        in.skipBytes(8);
        constants();
        in.skipBytes(2);
        String name = classAt(in.readUnsignedShort());
        in.skipBytes(2);
        in.skipBytes(2 * in.readUnsignedShort());
        members(null);
        members(name);
    }

    private void constants() throws IOException {
        int count = in.readUnsignedShort();
        texts = new Object[count];
        pairs = new int[count][2];
        for (int i = 1; i < count; i++) {
            int tag = in.readUnsignedByte();
            if (tag == 1) {
                texts[i] = in.readUTF();
            } else if (tag == 5 || tag == 6) {
                in.skipBytes(8);
                i++;
            } else if (tag == 15) {
                in.skipBytes(3);
            } else if (tag == 7 || tag == 8 || tag == 16 || tag >= 19) {
                pairs[i][0] = in.readUnsignedShort();
            } else {
                pairs[i][0] = in.readUnsignedShort();
                pairs[i][1] = in.readUnsignedShort();
            }
        }
    }

    private String classAt(int i) {
        return String.valueOf(texts[pairs[i][0]]);
    }

    private String calledAt(int i) {
        int[] signature = pairs[pairs[i][1]];
        return classAt(pairs[i][0]) + "." + texts[signature[0]] + ":" + texts[signature[1]];
    }

    private void members(String name) throws IOException {
        int count = in.readUnsignedShort();
        for (int i = 0; i < count; i++) {
            in.skipBytes(2);
            String key = name + "." + texts[in.readUnsignedShort()] + ":" + texts[in.readUnsignedShort()];
            int attributes = in.readUnsignedShort();
            for (int k = 0; k < attributes; k++) {
                boolean code = "Code".equals(texts[in.readUnsignedShort()]);
                byte[] bytes = new byte[in.readInt()];
                in.readFully(bytes);
                if (code) {
                    methods.put(key, method(ByteBuffer.wrap(bytes)));
                }
            }
        }
    }

    private Method method(ByteBuffer code) {
        Method m = new Method();
        int end = 8 + code.getInt(4);
        for (int at = 8; at < end; at += lengthAt(code, at)) {
            int instruction = code.get(at) & 255;
            m.instructions.add(instruction);
            if (instruction >= INVOKEVIRTUAL && instruction < INVOKEDYNAMIC) {
                m.calls.add(calledAt(code.getShort(at + 1) & 65535));
            } else if (instruction == INVOKEDYNAMIC) {
                m.calls.add("invokedynamic");
            }
        }
        m.caught = code.getShort(end);
        return m;
    }

    private static int lengthAt(ByteBuffer code, int at) {
        int instruction = code.get(at) & 255;
        int aligned = at + 1 + (3 - (at - 8) % 4);
        if (instruction == TABLESWITCH) {
            return aligned + 12 + 4 * (code.getInt(aligned + 8) - code.getInt(aligned + 4) + 1) - at;
        } else if (instruction == LOOKUPSWITCH) {
            return aligned + 8 + 8 * code.getInt(aligned + 4) - at;
        } else if (instruction == WIDE) {
            return (code.get(at + 1) & 255) == IINC ? 6 : 4;
        }
        int rest = instruction;
        for (int[] length : LENGTHS) {
            if (rest < length[0]) {
                return length[1];
            }
            rest -= length[0];
        }
        throw new IllegalStateException("no such instruction: " + instruction);
    }
}
