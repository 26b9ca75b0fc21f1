import java.lang.reflect.Constructor;
import java.lang.reflect.Field;
import java.lang.reflect.Method;
import java.lang.reflect.Modifier;
import java.nio.file.Files;
import java.nio.file.Path;
import java.util.Arrays;
import java.util.NoSuchElementException;
import java.util.TreeSet;

/** The public face is the document's, word by word, and nothing else can be seen from outside. */
public final class FaceTest {
    private static final String[] METHODS = {
        "boolean draw int int int int int int", "int drawn int int", "int town int",
        "int feed int int int int int", "boolean end int", "int fault int", "int text int",
        "int pain int int boolean int int !", "int pains int int boolean int int",
        "int way int int boolean int int int", "int nearly int int boolean int int int int",
        "int sees int int", "int sights int int int int", "int lineOfWay int int boolean int int",
        "int lineOfSight int int int", "int lineAt int", "int goOn int", "int line int int",
        "int about int int", "int find int int int", "int near int int int",
        "int against int int int int", "int known int", "int miss int int boolean int",
        "int best int boolean int", "int tried int boolean", "int stage int int int !",
        "int off int int int int boolean", "int slip int int int int boolean int",
        "int holds int int int", "boolean weigh int int", "int evidence int int int",
        "int odds int int int", "int pit int", "int dig int int int", "int field int int int int",
        "int meets int int", "int older int", "int hedge int int int", "int net int int boolean int",
        "int feet int int boolean long int int", "int trodden int", "int trips int", "int worn int",
        "int alike int int", "int era", "int bring int", "int changed int",
        "int then int int int boolean int int int", "int lasting int int boolean int int", "int count int"};

    public static void main(String[] args) throws Exception {
        Checks checks = new Checks("FaceTest");
        Class<?> face = OldRoads.class;
        checks.due("public and final", Modifier.PUBLIC | Modifier.FINAL, face.getModifiers());
        TreeSet<String> names = new TreeSet<>();
        TreeSet<String> told = new TreeSet<>();
        for (Method m : face.getDeclaredMethods()) {
            if (!Modifier.isPrivate(m.getModifiers())) {
                told.add(textOf(m));
                names.add(m.getName());
                checks.due(m.getName() + " is public alone", Modifier.PUBLIC, m.getModifiers());
            }
        }
        TreeSet<String> wanted = new TreeSet<>(Arrays.asList(METHODS));
        checks.due("methods " + told, wanted.size(), told.size());
        checks.yes("the document's methods alone " + told, wanted.equals(told));
        for (Method m : face.getDeclaredMethods()) {
            checks.yes("no private " + m.getName(), !Modifier.isPrivate(m.getModifiers()) || !names.contains(m.getName()));
        }
        fields(checks, face);
        Constructor<?>[] constructors = face.getDeclaredConstructors();
        checks.due("one constructor", 1, constructors.length);
        checks.yes("public without parameters",
            constructors[0].getModifiers() == Modifier.PUBLIC && constructors[0].getParameterCount() == 0);
        for (Class<?> inner : face.getDeclaredClasses()) {
            checks.yes(inner + " is private and static",
                Modifier.isPrivate(inner.getModifiers()) && Modifier.isStatic(inner.getModifiers()));
            for (Method m : inner.getDeclaredMethods()) {
                checks.yes(inner + " " + m.getName() + " bears no public name", !names.contains(m.getName()));
            }
        }
        asWritten(checks);
        checks.end();
    }

    /** Each line of the document's face stands in the program, with its names, and no other line there begins with public. */
    private static void asWritten(Checks checks) throws Exception {
        String document = Files.readString(Path.of("../shared/DOC.md"));
        int from = document.indexOf("```java\n", document.indexOf("## The public face")) + "```java\n".length();
        String[] face = document.substring(from, document.indexOf("```", from)).split("\n");
        TreeSet<String> lines = new TreeSet<>(Arrays.asList(Files.readString(Path.of("src/main/java/OldRoads.java")).split("\n")));
        TreeSet<String> wanted = new TreeSet<>();
        for (String line : face) {
            if (line.startsWith("    public ")) {
                boolean constant = line.contains(" = ");
                wanted.add(constant ? line : line.replaceAll(";$", " {"));
            }
        }
        checks.due("constants, constructor and methods", 2 + 1 + METHODS.length, wanted.size());
        for (String line : wanted) {
            checks.yes("as written:" + line, lines.contains(line));
        }
        for (String line : lines) {
            boolean known = wanted.contains(line) || line.equals("public final class OldRoads {");
            checks.yes("public as in the document:" + line, known || !line.contains("public "));
        }
    }

    private static void fields(Checks checks, Class<?> face) {
        for (Field f : face.getDeclaredFields()) {
            boolean constant = f.getName().equals("NONE") || f.getName().equals("HIDDEN");
            int modifiers = constant ? Modifier.PUBLIC | Modifier.STATIC | Modifier.FINAL : Modifier.PRIVATE;
            checks.yes(f.getName(), (f.getModifiers() & (Modifier.PUBLIC | Modifier.PRIVATE | Modifier.PROTECTED))
                == (modifiers & (Modifier.PUBLIC | Modifier.PRIVATE)));
        }
        kept(checks, face);
        for (Class<?> inner : face.getDeclaredClasses()) {
            kept(checks, inner);
        }
        checks.due("NONE", -1, OldRoads.NONE);
        checks.due("HIDDEN", -100000, OldRoads.HIDDEN);
    }

    /** Rule 5: static fields are constants; rule 11: some twenty others. */
    private static void kept(Checks checks, Class<?> one) {
        int own = 0;
        for (Field f : one.getDeclaredFields()) {
            if (Modifier.isStatic(f.getModifiers())) {
                boolean plain = f.getType() == int.class || f.getType() == int[].class;
                checks.yes(one + " " + f.getName() + " is a constant", plain && Modifier.isFinal(f.getModifiers()));
            } else {
                own++;
            }
        }
        checks.yes(one + " has some twenty fields: " + own, own <= 20);
    }

    private static String textOf(Method m) {
        StringBuilder text = new StringBuilder(m.getReturnType().getName());
        text.append(' ').append(m.getName());
        for (Class<?> p : m.getParameterTypes()) {
            text.append(' ').append(p.getName());
        }
        Class<?>[] thrown = m.getExceptionTypes();
        if (thrown.length == 1 && thrown[0] == NoSuchElementException.class) {
            text.append(" !");
        } else if (thrown.length > 0) {
            text.append(" ?");
        }
        return text.toString();
    }
}
