import java.io.DataInputStream;
import java.io.IOException;
import java.io.InputStream;
import java.util.Set;
import java.util.TreeSet;

/** What a compiled class calls or reads of classes that are not LostMuseum's, by its pool of constants. */
final class Pool {
    private final int[] kinds;
    private final int[] firsts;
    private final int[] seconds;
    private final String[] texts;

    private Pool(DataInputStream in) throws IOException {
        in.readInt();
        in.readInt();
        int many = in.readUnsignedShort();
        kinds = new int[many];
        firsts = new int[many];
        seconds = new int[many];
        texts = new String[many];
        for (int i = 1; i < many; i++) {
            kinds[i] = in.readUnsignedByte();
            i += readEntry(i, in);
        }
    }

    /** Answers how many places more it takes: long and double take two. */
    private int readEntry(int i, DataInputStream in) throws IOException {
        switch (kinds[i]) {
            case 1:
                texts[i] = in.readUTF();
                return 0;
            case 3: case 4:
                in.readInt();
                return 0;
            case 5: case 6:
                in.readLong();
                return 1;
            case 7: case 8: case 16: case 19: case 20:
                firsts[i] = in.readUnsignedShort();
                return 0;
            case 15:
                in.readUnsignedByte();
                in.readUnsignedShort();
                return 0;
            default:
                firsts[i] = in.readUnsignedShort();
                seconds[i] = in.readUnsignedShort();
                return 0;
        }
    }

    static Set<String> usedBy(Class<?> c) throws IOException {
        String file = "/" + c.getName() + ".class";
        Set<String> found = new TreeSet<>();
        try (InputStream in = c.getResourceAsStream(file)) {
            new Pool(new DataInputStream(in)).collect(found);
        }
        return found;
    }

    private void collect(Set<String> found) {
        for (int i = 1; i < kinds.length; i++) {
            boolean dynamic = kinds[i] == 17 || kinds[i] == 18;
            if (dynamic) {
                found.add("a call made at run time");
            }
            if (kinds[i] >= 9 && kinds[i] <= 11) {
                String owner = texts[firsts[firsts[i]]];
                if (!owner.startsWith("LostMuseum")) {
                    found.add(owner + "." + texts[firsts[seconds[i]]]);
                }
            }
        }
    }
}
