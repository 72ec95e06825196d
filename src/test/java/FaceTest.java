import java.lang.reflect.Constructor;
import java.lang.reflect.Field;
import java.lang.reflect.Method;
import java.lang.reflect.Modifier;
import java.nio.file.Files;
import java.nio.file.Path;
import java.util.ArrayList;
import java.util.Arrays;
import java.util.List;
import java.util.TreeSet;

/** The class has the document's face and no other, and keeps to those rules of LANGUAGE.md that a look at it shows. */
public final class FaceTest {
    private static final String[] CALLS = {
        "int row(int,int)", "int lay(int,int,int)", "int at(int,int)", "int tear(int)",
        "int copy(int,int,int,int,int)", "int mean(int)", "int text(int,int)", "int put(int,int,int)",
        "int fault(int,boolean)", "int barge(int)", "int rite(int)", "int bench(int,int)",
        "int guest(int,int)", "int mark(int,int)", "int limit(int)", "int rain(int)", "int quarrel(int,int)",
        "int peace(int)", "int seat(int,int)", "int rise(int)", "int change(int,int)", "int undo()",
        "int keep(int)", "int on(int)", "int list(int)", "int when()", "int minutes()", "int worst()",
        "int need()", "int best(int)", "int ways()", "int sure()", "int where(int)", "int aisle()",
        "int leave(int)", "int leavers()", "int invite(int,int,int)", "int far(int,int)", "int crossed()",
        "int divorce()", "int kin(int)", "int odds(int,int)", "int storm(int)", "int asked()",
        "long upper()", "long lower()", "int count(int)", "int finding()", "int findings(int)", "long digest()"};

    public static void main(String[] args) throws Exception {
        calls();
        constants();
        insides();
        words();
        rowsAreMadeOnce();
        Due.end();
    }

    private static void calls() {
        TreeSet<String> face = new TreeSet<>();
        TreeSet<String> hidden = new TreeSet<>();
        for (Method m : HeavierSide.class.getDeclaredMethods()) {
            List<String> types = new ArrayList<>();
            for (Class<?> type : m.getParameterTypes()) {
                types.add(type.getSimpleName());
            }
            if (Modifier.isPublic(m.getModifiers())) {
                face.add(m.getReturnType().getSimpleName() + " " + m.getName() + "(" + String.join(",", types) + ")");
            } else {
                hidden.add(m.getName());
                yes("private: " + m.getName(), Modifier.isPrivate(m.getModifiers()));
            }
        }
        yes("the face is " + face, face.equals(new TreeSet<>(Arrays.asList(CALLS))));
        for (String call : face) {
            String name = call.substring(call.indexOf(' ') + 1, call.indexOf('('));
            yes("no private method is called " + name, !hidden.contains(name));
        }
        Constructor<?>[] made = HeavierSide.class.getDeclaredConstructors();
        yes("one public constructor without arguments",
                made.length == 1 && Modifier.isPublic(made[0].getModifiers()) && made[0].getParameterCount() == 0);
        int mods = HeavierSide.class.getModifiers();
        yes("public, final", Modifier.isPublic(mods) && Modifier.isFinal(mods));
    }

    private static void constants() throws Exception {
        String[] names = {"BAD", "FULL", "FINDING", "STATE", "SPENT", "NONE"};
        int[] values = {-1, -2, -3, -4, -6, -9};
        for (int i = 0; i < names.length; i++) {
            Due.is(names[i], HeavierSide.class.getField(names[i]).getInt(null), values[i]);
        }
        for (Field f : HeavierSide.class.getDeclaredFields()) {
            boolean due = Arrays.asList(names).contains(f.getName());
            yes(f.getName() + " is public or private", due ? Modifier.isPublic(f.getModifiers())
                    : Modifier.isPrivate(f.getModifiers()));
        }
    }

    private static void insides() {
        Class<?>[] inside = HeavierSide.class.getDeclaredClasses();
        yes("at most twelve classes", inside.length + 1 <= 12);
        TreeSet<String> face = new TreeSet<>();
        for (Method m : HeavierSide.class.getMethods()) {
            face.add(m.getName());
        }
        for (Class<?> c : inside) {
            yes(c + " is static", Modifier.isStatic(c.getModifiers()));
            yes(c + " has no classes of its own", c.getDeclaredClasses().length == 0);
            int fields = 0;
            for (Field f : c.getDeclaredFields()) {
                boolean isStatic = Modifier.isStatic(f.getModifiers());
                fields += isStatic ? 0 : 1;
                yes(c + "." + f.getName() + " is final, if static", !isStatic || Modifier.isFinal(f.getModifiers()));
            }
            yes(c + " has at most twenty fields", fields <= 20);
            for (Method m : c.getDeclaredMethods()) {
                yes(c + "." + m.getName() + " takes at most seven", m.getParameterCount() <= 7);
                yes(c + "." + m.getName() + " is no name of the face", !face.contains(m.getName()));
            }
        }
    }

    private static void words() throws Exception {
        String source = Files.readString(Path.of("src/main/java/HeavierSide.java"));
        String code = source.replaceAll("(?s)/\\*.*?\\*/", " ").replaceAll("//[^\n]*", " ");
        for (String word : new String[] {"throw", "throws", "try", "catch", "finally", "synchronized", "assert",
            "import", "package", "Object", "System\\.out", "Math\\.\\w*Exact", "double", "float"}) {
            yes("no '" + word + "'", !java.util.regex.Pattern.compile("\\b" + word + "\\b").matcher(code).find());
        }
        yes("no lambda, no method reference", !code.contains("->") && !code.contains("::"));
        yes("signs 1 to 127", source.chars().allMatch(c -> c > 0 && c < 128));
    }

    /** All calls of one run live in one room: fields are made with their object, and no call makes more. */
    private static void rowsAreMadeOnce() throws Exception {
        int others = 0;
        for (String line : Files.readAllLines(Path.of("src/main/java/HeavierSide.java"))) {
            boolean makes = line.matches(".*\\bnew \\w+.*") && !line.strip().startsWith("*");
            boolean isField = line.matches("\\s+(private )?final [\\w\\[\\]]+ \\w+ = new .*;");
            others += makes && !isField ? 1 : 0;
        }
        Due.is("what is made beside fields: ROWS and TEXTS in the constructor", others, 2);
    }

    private static void yes(String what, boolean holds) {
        Due.is(what, holds ? 1 : 0, 1);
    }
}
