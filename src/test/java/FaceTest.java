import java.io.IOException;
import java.lang.reflect.Constructor;
import java.lang.reflect.Field;
import java.lang.reflect.Method;
import java.lang.reflect.Modifier;
import java.nio.file.Files;
import java.nio.file.Path;
import java.util.Arrays;
import java.util.HashSet;
import java.util.Set;
import java.util.TreeSet;
import java.util.regex.Matcher;
import java.util.regex.Pattern;

/** The class has the face of the document and nothing else that can be seen (LANGUAGE.md, rules 1 and 5). */
public final class FaceTest {
    private static final Due due = new Due();

    public static void main(String[] args) throws IllegalAccessException, IOException {
        due.about("the face");
        due.is("UNKNOWN", SofaStair.UNKNOWN, -1);
        due.is("OUTSIDE", SofaStair.OUTSIDE, -2);
        due.is("STATE", SofaStair.STATE, -3);
        due.is("FULL", SofaStair.FULL, -4);
        due.is("NO", SofaStair.NO, -5);
        due.is("NONE", SofaStair.NONE, -6);
        due.holds("public and final", SofaStair.class.getModifiers() == (Modifier.PUBLIC | Modifier.FINAL));
        methods();
        fields();
        Constructor<?>[] made = SofaStair.class.getDeclaredConstructors();
        due.holds("one constructor", made.length == 1 && made[0].getModifiers() == Modifier.PUBLIC
                && made[0].getParameterCount() == 0);
        String document = Files.readString(Path.of("../shared/DOC.md"));
        String program = Files.readString(Path.of("src/main/java/SofaStair.java"));
        inWords(document, program);
        inGroups(document, program);
        for (Class<?> inside : SofaStair.class.getDeclaredClasses()) inside(inside);
        due.holds("some twelve classes", SofaStair.class.getDeclaredClasses().length <= 12);
        due.end();
    }

    /** Each line of 'The public face', with the names of parameters, stands in the program, in that order. */
    private static void inWords(String document, String program) {
        Matcher block = Pattern.compile("(?s)```java\n(.*?)```").matcher(document);
        due.holds("the document has a face", block.find());
        int at = 0, lines = 0;
        for (String line : block.group(1).split("\n")) {
            boolean call = line.endsWith(");");
            int next = program.indexOf(call ? line.replace(");", ") {") : line, at);
            due.holds("in its place: " + line, next >= at);
            at = Math.max(at, next);
            lines++;
        }
        due.is("lines of the face", lines, 27);
    }

    /** What the interface says ahead of calls stands ahead of these and behind the ones before. */
    private static void inGroups(String document, String program) {
        Matcher ahead = Pattern.compile("Ahead of the calls (.*?) the interface says: (.*?)\\.\n").matcher(document);
        int last = 0, groups = 0;
        for (; ahead.find(); groups++) {
            int said = program.indexOf("    // " + ahead.group(2) + "\n");
            due.holds(ahead.group(2), said > last);
            for (String name : ahead.group(1).replace("`", "").split(", ")) {
                int call = program.indexOf("    public int " + name + "(");
                due.holds(name + " is behind " + ahead.group(2), call > said);
                last = Math.max(last, call);
            }
        }
        due.is("groups of calls", groups, 3);
    }

    private static void methods() {
        String[] face = {"size 3", "fill 3", "cell 1", "say 1", "wipe 0", "fault 1", "thing 1", "cube 3", "cost 3",
            "lay 2", "goal 2", "judge 2", "move 1", "goes 4", "effort 4", "room 2", "least 2", "bar 1", "order 2",
            "came 2", "image 1", "restore 1", "told 1"};
        Set<String> seen = new TreeSet<>(), names = new HashSet<>();
        for (Method m : SofaStair.class.getDeclaredMethods()) {
            if (Modifier.isPrivate(m.getModifiers())) continue;
            seen.add(m.getName() + " " + m.getParameterCount());
            names.add(m.getName());
            due.holds(m.getName(), m.getModifiers() == Modifier.PUBLIC && m.getReturnType() == int.class);
            for (Class<?> type : m.getParameterTypes()) due.holds(m.getName() + " takes int", type == int.class);
        }
        due.holds("the methods of the face: " + seen, seen.equals(new TreeSet<>(Arrays.asList(face))));
        for (Method m : SofaStair.class.getDeclaredMethods()) {
            if (Modifier.isPrivate(m.getModifiers())) {
                due.holds("private " + m.getName(), !names.contains(m.getName()));
                due.holds(m.getName() + " takes seven at most", m.getParameterCount() <= 7);
            }
        }
    }

    private static void fields() throws IllegalAccessException {
        Set<String> seen = new TreeSet<>();
        for (Field f : SofaStair.class.getDeclaredFields()) {
            if (Modifier.isPrivate(f.getModifiers())) {
                due.holds(f.getName() + " is final", Modifier.isFinal(f.getModifiers()));
                continue;
            }
            seen.add(f.getName());
            due.holds(f.getName(), f.getModifiers() == (Modifier.PUBLIC | Modifier.STATIC | Modifier.FINAL));
            due.holds(f.getName() + " is an int", f.getType() == int.class);
        }
        due.holds("the constants of the face: " + seen,
                seen.equals(new TreeSet<>(Arrays.asList("UNKNOWN", "OUTSIDE", "STATE", "FULL", "NO", "NONE"))));
    }

    private static void inside(Class<?> inside) {
        String name = inside.getSimpleName();
        due.holds(name + " is static", Modifier.isStatic(inside.getModifiers()));
        due.holds(name + " can not be seen", (inside.getModifiers() & (Modifier.PUBLIC | Modifier.PROTECTED)) == 0);
        int fields = 0;
        for (Field f : inside.getDeclaredFields()) {
            fields += Modifier.isStatic(f.getModifiers()) ? 0 : 1;
            due.holds(name + "." + f.getName(), !Modifier.isStatic(f.getModifiers()) || Modifier.isFinal(f.getModifiers()));
        }
        due.holds(name + " has some twenty fields", fields <= 20);
        for (Method m : inside.getDeclaredMethods()) {
            due.holds(name + "." + m.getName() + " takes seven at most", m.getParameterCount() <= 7);
        }
    }
}
