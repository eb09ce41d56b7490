import java.lang.management.ManagementFactory;
import java.lang.reflect.Constructor;
import java.lang.reflect.Field;
import java.lang.reflect.Method;
import java.lang.reflect.Modifier;
import java.nio.file.Files;
import java.nio.file.Path;
import java.util.Arrays;
import java.util.HashSet;
import java.util.Set;
import java.util.TreeSet;
import java.util.regex.Matcher;
import java.util.regex.Pattern;

/** What LANGUAGE.md asks of the program's text and face, and that calls make no objects. */
public final class LanguageTest {
    private static final String[] RULED_OUT = {"\\bthrow\\b", "\\bthrows\\b", "\\btry\\b", "\\bcatch\\b",
        "\\bsynchronized\\b", "\\bassert\\b", "->", "::", "\\bpackage\\b", "\\bString\\b", "\\bObject\\b",
        "\\bhashCode\\b", "\\btoString\\b", "\\bThread\\b", "\\bSystem\\b", "\\bdouble\\b", "\\bfloat\\b",
        "Exact\\b", "\\bprotected\\b", "\\bstatic\\s*\\{"};
    private static final Set<String> FACE = new TreeSet<>(Arrays.asList(
        "key(int,int)", "places(int)", "given(int,int,int)", "free(int,int)", "figure(int,int)",
        "inversion(int,int)", "fermata(int,boolean)", "style(int,boolean)", "cost(int,int)", "range(int,int,int)",
        "solve(int)", "note(int,int,int)", "chord(int,int)", "sum(int)", "least()", "states(int)", "blocked(int)",
        "repair()", "passing(int,int)", "count(int)", "member(int,int)"));
    private static int wrong = 0;

    public static void main(String[] args) throws Exception {
        text();
        face();
        names();
        inside();
        room();
        System.out.println(wrong == 0 ? "the language is kept to" : wrong + " faults");
        if (wrong != 0) {
            System.exit(1);
        }
    }

    private static void fault(String what) {
        wrong++;
        System.out.println(what);
    }

    private static void text() throws Exception {
        String source = Files.readString(Path.of("src/main/java/ChoraleSearch.java"));
        String code = source.replaceAll("(?s)/\\*.*?\\*/", "").replaceAll("//[^\n]*", "");
        for (String word : RULED_OUT) {
            Matcher m = Pattern.compile(word).matcher(code);
            if (m.find()) {
                fault("ruled out: " + word);
            }
        }
        Matcher imports = Pattern.compile("import ([^;]*);").matcher(code);
        while (imports.find()) {
            if (!imports.group(1).equals("java.util.Arrays")) {
                fault("import of " + imports.group(1));
            }
        }
        if (code.chars().anyMatch(c -> c > 127)) {
            fault("a character above 127");
        }
    }

    private static void face() {
        if (!Modifier.isFinal(ChoraleSearch.class.getModifiers())) {
            fault("the class is not final");
        }
        Set<String> open = new TreeSet<>();
        for (Method m : ChoraleSearch.class.getDeclaredMethods()) {
            if (!Modifier.isPrivate(m.getModifiers())) {
                StringBuilder name = new StringBuilder(m.getName()).append('(');
                for (Class<?> c : m.getParameterTypes()) {
                    name.append(name.charAt(name.length() - 1) == '(' ? "" : ",").append(c.getName());
                }
                open.add(name.append(')').toString());
                if (m.getReturnType() != int.class || !Modifier.isPublic(m.getModifiers())) {
                    fault("not public int: " + m);
                }
            }
        }
        if (!open.equals(FACE)) {
            fault("the face is " + open);
        }
        Set<String> constants = new HashSet<>();
        for (Field f : ChoraleSearch.class.getDeclaredFields()) {
            if (!Modifier.isPrivate(f.getModifiers())) {
                constants.add(f.getName());
            }
        }
        if (!constants.equals(Set.of("BAD", "NONE", "TOO_MANY"))) {
            fault("the constants are " + constants);
        }
        Constructor<?>[] made = ChoraleSearch.class.getDeclaredConstructors();
        if (made.length != 1 || made[0].getParameterCount() != 0 || !Modifier.isPublic(made[0].getModifiers())) {
            fault("the constructor is not the one of the document");
        }
    }

    private static void names() {
        Set<String> publicNames = new HashSet<>();
        for (String signature : FACE) {
            publicNames.add(signature.substring(0, signature.indexOf('(')));
        }
        for (Class<?> c : ChoraleSearch.class.getDeclaredClasses()) {
            for (Method m : c.getDeclaredMethods()) {
                if (publicNames.contains(m.getName())) {
                    fault("a method inside bears a public one's name: " + m);
                }
            }
        }
        for (Method m : ChoraleSearch.class.getDeclaredMethods()) {
            if (Modifier.isPrivate(m.getModifiers()) && publicNames.contains(m.getName())) {
                fault("a private method bears a public one's name: " + m);
            }
        }
    }

    private static void inside() {
        Class<?>[] classes = ChoraleSearch.class.getDeclaredClasses();
        if (classes.length + 1 > 12) {
            fault("more than twelve classes");
        }
        for (Class<?> c : classes) {
            if (!Modifier.isStatic(c.getModifiers())) {
                fault("a class inside that is not static: " + c);
            }
            int fields = 0;
            for (Field f : c.getDeclaredFields()) {
                boolean isStatic = Modifier.isStatic(f.getModifiers());
                fields += isStatic ? 0 : 1;
                if (isStatic && !Modifier.isFinal(f.getModifiers())) {
                    fault("static state: " + f);
                }
            }
            if (fields > 20) {
                fault("more than twenty fields: " + c);
            }
            for (Method m : c.getDeclaredMethods()) {
                if (m.getParameterCount() > 7) {
                    fault("more than seven parameters: " + m);
                }
            }
        }
    }

    /** An object has its rows from the start: its calls make nothing. */
    private static void room() {
        com.sun.management.ThreadMXBean threads =
            (com.sun.management.ThreadMXBean) ManagementFactory.getThreadMXBean();
        ask(new ChoraleSearch());
        long start = threads.getCurrentThreadAllocatedBytes();
        ChoraleSearch x = new ChoraleSearch();
        long made = threads.getCurrentThreadAllocatedBytes();
        ask(x);
        long end = threads.getCurrentThreadAllocatedBytes();
        if (made - start > 300_000) {
            fault("an object takes " + (made - start) + " bytes");
        }
        if (end - made > 1000) {
            fault("calls make " + (end - made) + " bytes");
        }
    }

    private static void ask(ChoraleSearch x) {
        x.key(2, 1);
        x.places(8);
        for (int i = 0; i < 8; i++) {
            x.figure(i, i == 7 ? 0 : i % 2 * 4);
            x.inversion(i, -1);
            x.fermata(i, true);
        }
        for (int round = 0; round < 20; round++) {
            x.given(round % 4, round % 8, 50 + round);
            x.solve(0);
            x.solve(7);
            x.note(0, 0, 0);
            x.chord(0, 0);
            x.sum(0);
            x.least();
            x.states(0);
            x.blocked(2);
            x.repair();
            x.passing(0, 0);
            x.count(3);
            x.member(0, 0);
            x.free(round % 4, round % 8);
            x.style(8, round % 2 == 0);
            x.cost(0, round);
            x.range(0, 59, 81);
        }
    }
}
