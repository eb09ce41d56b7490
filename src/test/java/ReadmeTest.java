import java.lang.reflect.Method;
import java.lang.reflect.Modifier;
import java.nio.file.Files;
import java.nio.file.Path;
import java.util.regex.Matcher;
import java.util.regex.Pattern;

/** README.md: each call of its examples answers what stands beside it, and no part of the face is left out. */
public final class ReadmeTest {
    private static final Pattern CALL = Pattern.compile("\\bx\\.(\\w+)\\(([^)]*)\\);(?:\\s*// (-?\\d+)\\b)?");
    private static final Pattern MADE = Pattern.compile("ChoraleSearch x = new ChoraleSearch\\(\\);");

    public static void main(String[] args) throws Exception {
        String text = Files.readString(Path.of("README.md"));
        examples(text);
        face(text);
        Due.end();
    }

    private static void examples(String text) throws Exception {
        Matcher blocks = Pattern.compile("(?s)```java\n(.*?)```").matcher(text);
        int found = 0;
        while (blocks.find()) {
            found++;
            Due.sentence("example " + found);
            example(blocks.group(1));
        }
        Due.is("examples of README.md", found, 3);
    }

    private static void example(String block) throws Exception {
        ChoraleSearch x = null;
        for (String line : block.split("\n")) {
            if (MADE.matcher(line).find()) {
                x = new ChoraleSearch();
                continue;
            }
            Matcher call = CALL.matcher(line);
            Due.same("a call with its answer: " + line, call.find() && call.group(3) != null ? "yes" : "no", "yes");
            Due.is(line, answer(x, call.group(1), call.group(2)), Integer.parseInt(call.group(3)));
        }
    }

    private static int answer(ChoraleSearch x, String name, String written) throws Exception {
        String[] words = written.isEmpty() ? new String[0] : written.split(", ");
        for (Method m : ChoraleSearch.class.getMethods()) {
            if (m.getName().equals(name) && m.getParameterCount() == words.length) {
                return (Integer) m.invoke(x, values(m, words));
            }
        }
        throw new IllegalStateException("README.md calls what there is not: " + name);
    }

    private static Object[] values(Method m, String[] words) {
        Object[] values = new Object[words.length];
        for (int i = 0; i < words.length; i++) {
            boolean flag = m.getParameterTypes()[i] == boolean.class;
            values[i] = flag ? (Object) Boolean.valueOf(words[i]) : (Object) Integer.valueOf(words[i]);
        }
        return values;
    }

    private static void face(String text) {
        Due.sentence("README.md says what is told, what is asked, what BAD, NONE and TOO_MANY mean");
        for (Method m : ChoraleSearch.class.getDeclaredMethods()) {
            if (Modifier.isPublic(m.getModifiers())) {
                String cell = "(?m)^\\| (`[^`|]*`, )*`" + m.getName() + "\\(";
                Due.same(m.getName(), Pattern.compile(cell).matcher(text).find() ? "told" : "left out", "told");
            }
        }
        constant(text, "BAD", ChoraleSearch.BAD);
        constant(text, "NONE", ChoraleSearch.NONE);
        constant(text, "TOO_MANY", ChoraleSearch.TOO_MANY);
        Due.sentence("README.md says how to run the tests");
        Due.same(".ci/run", text.contains("```sh\n.ci/run\n```") ? "told" : "left out", "told");
    }

    private static void constant(String text, String name, int value) {
        String entry = "\n- `" + name + "` (" + value + "): ";
        Due.same(name, text.contains(entry) ? "told" : "left out", "told");
    }
}
