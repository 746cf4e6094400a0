import java.io.IOException;
import java.lang.reflect.Constructor;
import java.lang.reflect.Field;
import java.lang.reflect.Member;
import java.lang.reflect.Method;
import java.lang.reflect.Modifier;
import java.nio.file.Files;
import java.nio.file.Path;
import java.util.ArrayList;
import java.util.Arrays;
import java.util.List;
import java.util.TreeSet;

/** The public face of the document, and what of the language's rules can be seen by looking. */
public final class FaceTest {
    private static final String FACE = "int feed IIIII;int borough I i;int fault;int count I n;int alderman II n;int motion II n;int hours I;int wind I;int oil I;"
        + "int spider I;int bribe II n;int move II n;int undo;int saying I i;int when I n;int then II ni;int fails I n;int calls II i;int toWind I i;int moving II n;"
        + "int votes II ni;int bought II ni;int order I n;int bribery II ni;int needs I n;int allies II n;int passing I i;int toOil I i;int hush II ni;int word I i;"
        + "int heldUp I n;int idle;int see II;int fouled I n;int listen I n;void forget;int game III ni;int years III ni;void image;boolean restore";

    public static void main(String[] args) throws IOException {
        face();
        members();
        source();
        Check.end();
    }

    private static void face() {
        List<String> found = new ArrayList<>();
        for (Method m : CuckooMayor.class.getDeclaredMethods()) {
            if (!Modifier.isPublic(m.getModifiers())) continue;
            StringBuilder b = new StringBuilder(m.getReturnType() + " " + m.getName());
            if (m.getParameterCount() > 0) b.append(' ').append("I".repeat(m.getParameterCount()));
            Check.holds(m.getName() + " takes ints alone", Arrays.stream(m.getParameterTypes()).allMatch(t -> t == int.class));
            StringBuilder thrown = new StringBuilder();
            for (Class<?> e : m.getExceptionTypes()) thrown.append(e.getSimpleName().equals("NoSuchElementException") ? 'n' : 'i');
            if (thrown.length() > 0) b.append(' ').append(thrown);
            found.add(b.toString());
        }
        Check.holds("the methods are those of the document: " + new TreeSet<>(found), new TreeSet<>(found).equals(new TreeSet<>(List.of(FACE.split(";")))));
        Check.holds("each method stands once", found.size() == 40);
        Check.holds("the class is public and final", Modifier.isPublic(CuckooMayor.class.getModifiers()) && Modifier.isFinal(CuckooMayor.class.getModifiers()));
        Constructor<?>[] made = CuckooMayor.class.getDeclaredConstructors();
        Check.holds("one public constructor without parameters", made.length == 1 && made[0].getParameterCount() == 0 && Modifier.isPublic(made[0].getModifiers()));
        Check.due("NONE", -1, () -> CuckooMayor.NONE);
    }

    private static void members() {
        List<String> names = new ArrayList<>();
        for (Method m : CuckooMayor.class.getDeclaredMethods()) if (Modifier.isPublic(m.getModifiers())) names.add(m.getName());
        List<Member> own = new ArrayList<>();
        own.addAll(List.of(CuckooMayor.class.getDeclaredMethods()));
        own.addAll(List.of(CuckooMayor.class.getDeclaredFields()));
        for (Member m : own) {
            boolean ofFace = Modifier.isPublic(m.getModifiers()) && (m instanceof Method || m.getName().equals("NONE"));
            Check.holds(m.getName() + " is of the face, or private", ofFace || Modifier.isPrivate(m.getModifiers()));
        }
        List<Class<?>> classes = new ArrayList<>(List.of(CuckooMayor.class));
        classes.addAll(List.of(CuckooMayor.class.getDeclaredClasses()));
        Check.holds("at most twelve classes", classes.size() <= 12);
        for (Class<?> c : classes) {
            Check.holds(c + " is static", c == CuckooMayor.class || Modifier.isStatic(c.getModifiers()));
            int fields = 0;
            for (Field f : c.getDeclaredFields()) {
                if (!Modifier.isStatic(f.getModifiers())) fields++;
                else Check.holds(f + " is final", Modifier.isFinal(f.getModifiers()));
            }
            Check.holds(c + " has at most twenty fields", fields <= 20);
            for (Method m : c.getDeclaredMethods()) {
                Check.holds(m + " bears no name of the face", c == CuckooMayor.class && Modifier.isPublic(m.getModifiers()) || !names.contains(m.getName()));
                Check.holds(m + " takes at most seven", m.getParameterCount() <= 7);
            }
        }
    }

    private static void source() throws IOException {
        List<String> lines = Files.readAllLines(Path.of("src/main/java/CuckooMayor.java"));
        for (String line : lines) {
            for (String never : new String[] {"->", "::", "Exact", " catch ", "finally", "synchronized", "assert ", "package ", "System.out", "while (true)", "for (;;)", "\" + ", "+ \""}) {
                Check.holds("no '" + never + "' in: " + line, !line.contains(never));
            }
            if (line.startsWith("import ")) Check.holds(line, line.equals("import java.util.Arrays;") || line.equals("import java.util.NoSuchElementException;"));
            Check.holds("only signs 1 to 127 in: " + line, line.chars().allMatch(c -> c < 128));
        }
        int from = -1;
        for (int i = 0; i < lines.size(); i++) {
            String line = lines.get(i);
            String bare = line.strip();
            int indent = line.length() - line.stripLeading().length();
            if ((indent == 4 || indent == 8) && bare.endsWith("{") && bare.contains("(") && !bare.contains("class ")) from = i;
            if ((indent == 4 || indent == 8) && bare.equals("}") && from >= 0) {
                Check.holds("at most sixty lines: " + lines.get(from).strip(), i - from + 1 <= 60);
            }
        }
    }
}
