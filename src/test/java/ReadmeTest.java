import java.io.IOException;
import java.lang.reflect.InvocationTargetException;
import java.lang.reflect.Method;
import java.lang.reflect.Modifier;
import java.nio.file.Files;
import java.nio.file.Path;
import java.util.ArrayList;
import java.util.List;
import java.util.regex.Matcher;
import java.util.regex.Pattern;

/** What README.md tells is so: its examples are called line by line, the answer that is due stands in the comment. */
public final class ReadmeTest {
    private static final Pattern CALL = Pattern.compile("mayor\\.(\\w+)\\(([^)]*)\\);\\s*// (-?\\d+)");

    private static CuckooMayor mayor;
    private static int calls = 0;

    public static void main(String[] args) throws IOException {
        StringBuilder block = new StringBuilder();
        String kind = "";
        for (String line : Files.readAllLines(Path.of("README.md"))) {
            if (!line.startsWith("```")) {
                block.append(kind.isEmpty() ? "" : line + "\n");
            } else {
                if (kind.equals("java")) callAll(block.toString());
                if (kind.equals("text")) mayor = Check.town(block.toString());
                kind = line.substring(3);
                block.setLength(0);
            }
        }
        Check.holds("README.md shows calls: " + calls, calls >= 10);
        namesOfTheFace();
        Check.end();
    }

    private static void callAll(String block) {
        for (String line : block.split("\n")) {
            Matcher found = CALL.matcher(line);
            if (line.contains("new CuckooMayor()")) {
                mayor = new CuckooMayor();
            } else {
                boolean isCall = found.find();
                Check.holds("a call with its answer: " + line, isCall);
                if (isCall) Check.due(line, Long.parseLong(found.group(3)), () -> call(found.group(1), found.group(2)));
                calls++;
            }
        }
    }

    private static long call(String name, String numbers) {
        List<Object> args = new ArrayList<>();
        for (String number : numbers.split(",")) if (!number.isBlank()) args.add(Integer.decode(number.strip()));
        Class<?>[] types = new Class<?>[args.size()];
        java.util.Arrays.fill(types, int.class);
        try {
            return (Integer) CuckooMayor.class.getMethod(name, types).invoke(mayor, args.toArray());
        } catch (NoSuchMethodException | IllegalAccessException | InvocationTargetException e) {
            throw new IllegalStateException(e);
        }
    }

    /** Each method is told of, so that one finds what there is. */
    private static void namesOfTheFace() throws IOException {
        String readme = Files.readString(Path.of("README.md"));
        for (Method m : CuckooMayor.class.getDeclaredMethods()) {
            if (Modifier.isPublic(m.getModifiers())) Check.holds("README.md names " + m.getName(), readme.contains("`" + m.getName() + "`"));
        }
        for (java.io.File f : new java.io.File("src/test/java").listFiles()) {
            String name = f.getName().replace(".java", "");
            if (name.endsWith("Test")) Check.holds("README.md names " + name, readme.contains("`" + name + "`"));
        }
    }
}
