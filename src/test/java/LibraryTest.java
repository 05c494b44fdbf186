import java.io.DataInputStream;
import java.io.IOException;
import java.io.InputStream;
import java.util.Set;
import java.util.TreeSet;

/** Rule 4 of ../shared/LANGUAGE.md: what of the library the compiled classes name, none of it beyond the list. */
public final class LibraryTest {
    private static final Set<String> LISTED = Set.of("java/lang/Object.<init>", "java/lang/System.arraycopy",
        "java/lang/Math.min", "java/lang/Math.max", "java/lang/Math.abs", "java/lang/Math.floorDiv", "java/lang/Math.floorMod",
        "java/lang/String.length", "java/lang/String.charAt", "java/lang/String.indexOf", "java/lang/String.equals",
        "java/util/Arrays.fill", "java/util/Arrays.copyOf", "java/util/Arrays.copyOfRange");
    private static final int UTF8 = 1, INTEGER = 3, FLOAT = 4, LONG = 5, DOUBLE = 6, CLASS = 7, STRING = 8, FIELD = 9,
        INTERFACE_METHOD = 11, NAME_AND_TYPE = 12, HANDLE = 15, METHOD_TYPE = 16;

    public static void main(String[] args) throws IOException {
        Set<String> named = new TreeSet<>(named(DearerByUse.class));
        for (Class<?> inside : DearerByUse.class.getDeclaredClasses()) named.addAll(named(inside));
        for (String member : named) {
            if (member.startsWith("DearerByUse")) continue;
            Checks.due("listed: " + member, LISTED.contains(member) ? 1 : 0, 1);
        }
        Checks.due("the class's own were seen", named.contains("DearerByUse$Day.live") ? 1 : 0, 1);
        Checks.end("LibraryTest");
    }

    /** Every method and field that a class names, as owner.name, from its constants. */
    private static Set<String> named(Class<?> of) throws IOException {
        try (InputStream bytes = of.getResourceAsStream("/" + of.getName() + ".class");
             DataInputStream in = new DataInputStream(bytes)) {
            in.readInt();
            in.readInt();
            int size = in.readUnsignedShort();
            int[] tags = new int[size];
            int[] first = new int[size];
            int[] second = new int[size];
            String[] texts = new String[size];
            for (int i = 1; i < size; i++) {
                tags[i] = in.readUnsignedByte();
                switch (tags[i]) {
                    case UTF8 -> texts[i] = in.readUTF();
                    case INTEGER, FLOAT -> in.readInt();
                    case LONG, DOUBLE -> {
                        in.readLong();
                        i++;
                    }
                    case CLASS, STRING, METHOD_TYPE -> first[i] = in.readUnsignedShort();
                    case HANDLE -> {
                        in.readUnsignedByte();
                        in.readUnsignedShort();
                    }
                    default -> {
                        first[i] = in.readUnsignedShort();
                        second[i] = in.readUnsignedShort();
                        if (tags[i] > NAME_AND_TYPE) Checks.due(of + " names what is made by itself, tag " + tags[i], 1, 0);
                    }
                }
            }
            Set<String> named = new TreeSet<>();
            for (int i = 1; i < size; i++) {
                if (tags[i] < FIELD || tags[i] > INTERFACE_METHOD) continue;
                named.add(texts[first[first[i]]] + "." + texts[first[second[i]]]);
            }
            return named;
        }
    }
}
