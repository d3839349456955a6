import java.io.DataInputStream;
import java.io.IOException;
import java.io.InputStream;
import java.util.ArrayList;
import java.util.List;
import java.util.Map;
import java.util.TreeMap;

/** What javac made of a class: for each of its methods the calls and the other instructions that rules look at. */
final class Compiled {
    /** A method's instructions: calls and makings by name, and the other ones that a rule forbids or bounds. */
    static final class Method {
        final String name;
        final List<String> calls = new ArrayList<>();
        final List<String> made = new ArrayList<>();
        final List<String> forbidden = new ArrayList<>();
        boolean putsStatic;
        int firstLine = Integer.MAX_VALUE;
        int lastLine;

        Method(String name) {
            this.name = name;
        }

        boolean isForMaking() {
            return name.contains(".<init>") || name.contains(".<clinit>");
        }

        int lines() {
            return Math.max(0, lastLine - firstLine + 1);
        }
    }

    private static final int TABLESWITCH = 0xaa, LOOKUPSWITCH = 0xab, PUTSTATIC = 0xb3, WIDE = 0xc4, IINC = 0x84;
    private static final int FIRST_CALL = 0xb6, INVOKEDYNAMIC = 0xba, NEW = 0xbb, NEWARRAY = 0xbc, ANEWARRAY = 0xbd;
    private static final int ATHROW = 0xbf, CHECKCAST = 0xc0, MONITORENTER = 0xc2, MULTIANEWARRAY = 0xc5;

    private final DataInputStream in;
    private Object[] pool;
    private int[][] refs;
    private final Map<String, Method> methods = new TreeMap<>();
    private String name;

    private Compiled(InputStream bytes) {
        in = new DataInputStream(bytes);
    }

    /** The methods of a class, by their names with class and parameters, such as "PianoCrews.set(II)I". */
    static Map<String, Method> methodsOf(Class<?> c) throws IOException {
        try (InputStream bytes = c.getResourceAsStream(c.getName() + ".class")) {
            Compiled read = new Compiled(bytes);
            read.readClass();
            return read.methods;
        }
    }

    private void readClass() throws IOException {
        in.skipBytes(8);
        readPool();
        in.skipBytes(2);
        name = text(refs[in.readUnsignedShort()][0]);
        in.skipBytes(2);
        in.skipBytes(2 * in.readUnsignedShort());
        for (int fields = in.readUnsignedShort(); fields > 0; fields--) {
            in.skipBytes(6);
            skipAttributes();
        }
        for (int left = in.readUnsignedShort(); left > 0; left--) {
            readMethod();
        }
    }

    private void readPool() throws IOException {
        int size = in.readUnsignedShort();
        pool = new Object[size];
        refs = new int[size][2];
        for (int n = 1; n < size; n++) {
            int tag = in.readUnsignedByte();
            switch (tag) {
                case 1: pool[n] = in.readUTF(); break;
                case 3: case 4: in.skipBytes(4); break;
                case 5: case 6: in.skipBytes(8); n++; break;
                case 7: case 8: case 16: case 19: case 20: refs[n][0] = in.readUnsignedShort(); break;
                case 15: in.skipBytes(3); break;
                case 9: case 10: case 11: case 12: case 17: case 18:
                    refs[n][0] = in.readUnsignedShort();
                    refs[n][1] = in.readUnsignedShort();
                    break;
                default: throw new IOException("constant " + n + " has the tag " + tag);
            }
        }
    }

    private String text(int at) {
        return String.valueOf(pool[at]);
    }

    private String member(int at) {
        int[] nameAndType = refs[refs[at][1]];
        return text(refs[refs[at][0]][0]) + "." + text(nameAndType[0]) + text(nameAndType[1]);
    }

    private void skipAttributes() throws IOException {
        for (int left = in.readUnsignedShort(); left > 0; left--) {
            in.skipBytes(2);
            in.skipBytes(in.readInt());
        }
    }

    private void readMethod() throws IOException {
        in.skipBytes(2);
        Method method = new Method(name + "." + text(in.readUnsignedShort()) + text(in.readUnsignedShort()));
        methods.put(method.name, method);
        for (int left = in.readUnsignedShort(); left > 0; left--) {
            String attribute = text(in.readUnsignedShort());
            int length = in.readInt();
            if (attribute.equals("Code")) {
                readCode(method);
            } else {
                in.skipBytes(length);
            }
        }
    }

    private void readCode(Method method) throws IOException {
        in.skipBytes(4);
        byte[] code = new byte[in.readInt()];
        in.readFully(code);
        for (int at = 0; at < code.length; at += lengthAt(code, at)) {
            look(code, at, method);
        }
        int caught = in.readUnsignedShort();
        in.skipBytes(8 * caught);
        if (caught > 0) {
            method.forbidden.add("catch");
        }
        for (int left = in.readUnsignedShort(); left > 0; left--) {
            String attribute = text(in.readUnsignedShort());
            int length = in.readInt();
            if (attribute.equals("LineNumberTable")) {
                readLines(method);
            } else {
                in.skipBytes(length);
            }
        }
    }

    private void readLines(Method method) throws IOException {
        for (int left = in.readUnsignedShort(); left > 0; left--) {
            in.skipBytes(2);
            int line = in.readUnsignedShort();
            method.firstLine = Math.min(method.firstLine, line);
            method.lastLine = Math.max(method.lastLine, line);
        }
    }

    private void look(byte[] code, int at, Method method) {
        int op = code[at] & 255;
        if (op >= FIRST_CALL && op < INVOKEDYNAMIC) {
            method.calls.add(member(shortAt(code, at + 1)));
        } else if (op == NEW || op == ANEWARRAY || op == MULTIANEWARRAY) {
            method.made.add(text(refs[shortAt(code, at + 1)][0]));
        } else if (op == NEWARRAY) {
            method.made.add("numbers");
        } else if (op == PUTSTATIC) {
            method.putsStatic = true;
        } else if (op == INVOKEDYNAMIC) {
            method.forbidden.add("a lambda, or texts joined by +");
        } else if (op == ATHROW) {
            method.forbidden.add("throw");
        } else if (op == CHECKCAST) {
            method.forbidden.add("a cast of an object");
        } else if (op == MONITORENTER) {
            method.forbidden.add("synchronized");
        }
    }

    private static int shortAt(byte[] code, int at) {
        return (code[at] & 255) << 8 | code[at + 1] & 255;
    }

    private static int intAt(byte[] code, int at) {
        return shortAt(code, at) << 16 | shortAt(code, at + 2);
    }

    private static int lengthAt(byte[] code, int at) {
        int op = code[at] & 255;
        int aligned = (at + 4) / 4 * 4;
        switch (op) {
            case TABLESWITCH: return aligned + 12 + 4 * (intAt(code, aligned + 8) - intAt(code, aligned + 4) + 1) - at;
            case LOOKUPSWITCH: return aligned + 8 + 8 * intAt(code, aligned + 4) - at;
            case WIDE: return (code[at + 1] & 255) == IINC ? 6 : 4;
            case 0xb9: case INVOKEDYNAMIC: case 0xc8: case 0xc9: return 5;
            case MULTIANEWARRAY: return 4;
            case 0x10: case 0x12: case 0xa9: case NEWARRAY: return 2;
            case 0x11: case 0x13: case 0x14: case IINC: case NEW: case ANEWARRAY: case CHECKCAST: case 0xc1: return 3;
            case 0xc6: case 0xc7: return 3;
            default: break;
        }
        boolean local = op >= 0x15 && op <= 0x19 || op >= 0x36 && op <= 0x3a;
        boolean jumpOrMember = op >= 0x99 && op <= 0xa8 || op >= 0xb2 && op <= 0xb8;
        return local ? 2 : jumpOrMember ? 3 : 1;
    }
}
