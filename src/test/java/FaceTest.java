import java.io.IOException;
import java.lang.reflect.Constructor;
import java.lang.reflect.Field;
import java.lang.reflect.Method;
import java.lang.reflect.Modifier;
import java.nio.charset.StandardCharsets;
import java.nio.file.Files;
import java.nio.file.Path;
import java.util.Arrays;
import java.util.List;
import java.util.Set;
import java.util.TreeSet;

/** The public face of the document, and what of LANGUAGE.md a program can look up. */
public final class FaceTest {
    private static final String[] FACE = {
        "public int BusTelegrams.address(int,int) throws java.lang.IllegalArgumentException",
        "public boolean BusTelegrams.listen(int,int,boolean) throws java.lang.IllegalArgumentException",
        "public boolean BusTelegrams.busy(int,boolean) throws java.lang.IllegalArgumentException",
        "public int BusTelegrams.send(int,int,int,boolean,int,int)"
            + " throws java.lang.IllegalArgumentException,java.lang.IllegalStateException",
        "public boolean BusTelegrams.disturb(int)"
            + " throws java.lang.IllegalArgumentException,java.lang.IllegalStateException",
        "public int BusTelegrams.run(int)"
            + " throws java.lang.IllegalArgumentException,java.lang.IllegalStateException",
        "public int BusTelegrams.bit(int) throws java.lang.IllegalArgumentException",
        "public int BusTelegrams.station(int,int) throws java.lang.IllegalArgumentException",
        "public int BusTelegrams.heard(int) throws java.lang.IllegalArgumentException",
        "public int BusTelegrams.byteAt(int) throws java.lang.IllegalArgumentException",
        "public int BusTelegrams.answer()",
        "public int BusTelegrams.pack(double)",
        "public double BusTelegrams.unpack(int) throws java.lang.IllegalArgumentException"
    };
    private static final String[] RULED_OUT = {
        "import ", "package ", "->", "::", "catch", "finally", "synchronized", "assert", "volatile", "native",
        "Exact", "System.", "Thread", "Random", "toString", "hashCode", "equals(", "getMessage", "protected ",
        "Math.floor(", "Math.abs(", "Double.", "Float.", "var ", "static {", "@"
    };

    public static void main(String[] args) throws IOException {
        Class<?> face = BusTelegrams.class;
        Checks.due("public final", face.getModifiers(), Modifier.PUBLIC | Modifier.FINAL);
        publicMembers(face);
        insideClasses(face);
        sourceRules();
        Checks.finish();
    }

    private static void publicMembers(Class<?> face) {
        Set<String> got = new TreeSet<>();
        Set<String> publicNames = new TreeSet<>();
        for (Method method : face.getDeclaredMethods()) {
            if (!Modifier.isPrivate(method.getModifiers())) {
                got.add(method.toString());
                publicNames.add(method.getName());
            }
        }
        Checks.due("methods of the face " + got, got.equals(new TreeSet<>(Arrays.asList(FACE))), true);
        for (Method method : face.getDeclaredMethods()) {
            boolean hidden = Modifier.isPrivate(method.getModifiers());
            Checks.due("private " + method.getName(), hidden && publicNames.contains(method.getName()), false);
        }
        for (Constructor<?> constructor : face.getDeclaredConstructors()) {
            Checks.due("" + constructor, constructor.toString().equals("public BusTelegrams()"), true);
        }
        for (Field field : face.getDeclaredFields()) {
            boolean none = field.toString().equals("public static final int BusTelegrams.NONE");
            Checks.due("" + field, none || Modifier.isPrivate(field.getModifiers()), true);
            boolean loose = Modifier.isStatic(field.getModifiers()) && !Modifier.isFinal(field.getModifiers());
            Checks.due("static and not final: " + field, loose, false);
        }
    }

    private static void insideClasses(Class<?> face) {
        Class<?>[] inside = face.getDeclaredClasses();
        Checks.due("at most twelve classes", inside.length <= 11, true);
        for (Class<?> one : inside) {
            Checks.due(one + " is static", Modifier.isStatic(one.getModifiers()), true);
            Checks.due(one + " is public", Modifier.isPublic(one.getModifiers()), false);
            long fields = Arrays.stream(one.getDeclaredFields())
                .filter(field -> !Modifier.isStatic(field.getModifiers())).count();
            Checks.due(one + " has at most twenty fields", fields <= 20, true);
        }
    }

    private static void sourceRules() throws IOException {
        List<String> lines = Files.readAllLines(Path.of("src/main/java/BusTelegrams.java"), StandardCharsets.UTF_8);
        for (int i = 0; i < lines.size(); i++) {
            String line = lines.get(i);
            for (String word : RULED_OUT) {
                boolean comment = line.strip().startsWith("//") || line.strip().startsWith("*")
                    || line.strip().startsWith("/*");
                Checks.due("line " + (i + 1) + " has " + word, !comment && line.contains(word), false);
            }
            Checks.due("line " + (i + 1) + " in ASCII", line.chars().allMatch(c -> c < 128), true);
        }
    }
}
