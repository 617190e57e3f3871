import java.lang.reflect.Constructor;
import java.lang.reflect.Field;
import java.lang.reflect.Method;
import java.lang.reflect.Modifier;
import java.nio.file.Files;
import java.nio.file.Path;
import java.util.Arrays;
import java.util.Set;
import java.util.TreeSet;

/** The public face, and those rules of LANGUAGE.md that can be seen from outside or in the source. */
public final class FaceTest {
    private static final Check CHECK = new Check("FaceTest");

    private static final String FACE = "mill(int)int goods(int,int,int)int word(int)int type(int)int clear()int read()int "
        + "grind(int)int hour(int)int say(int)int sell(int,int)int cold(int)int undo()int of(int,int)int grinds()int "
        + "then(int,int)int full()int just(int,int)int best(int,int)int ship(int,int)int guess(int,int)int words(int)int "
        + "nextGuess()int street(int,int)int note(int,int,int,int)int forget(int)int is(int,int)int look(int)int "
        + "thieves(int,int,int)int mills(int,int)int part(int)long image(int)int from(int)int status(int)int "
        + "count(int)int digest()long";

    public static void main(String[] args) throws Exception {
        CHECK.due("NONE", GrindMill.NONE, -1);
        CHECK.due("BAD", GrindMill.BAD, -2);
        CHECK.due("NO", GrindMill.NO, -3);
        CHECK.due("FULL", GrindMill.FULL, -4);
        publicMembers();
        otherMembers();
        source(code(Files.readString(Path.of("src/main/java/GrindMill.java"))));
        CHECK.end();
    }

    private static void publicMembers() {
        Set<String> found = new TreeSet<>();
        for (Method m : GrindMill.class.getDeclaredMethods()) {
            if (Modifier.isPublic(m.getModifiers())) {
                found.add(signature(m));
                CHECK.holds(m.getName() + " is of the object", !Modifier.isStatic(m.getModifiers()));
            }
        }
        Set<String> due = new TreeSet<>(Arrays.asList(FACE.split(" ")));
        CHECK.holds("the face is " + due + ", found " + found, due.equals(found));
        Constructor<?>[] constructors = GrindMill.class.getDeclaredConstructors();
        CHECK.due("constructors", constructors.length, 1);
        CHECK.due("its parameters", constructors[0].getParameterCount(), 0);
        CHECK.holds("the class is final", Modifier.isFinal(GrindMill.class.getModifiers()));
    }

    private static String signature(Method m) {
        StringBuilder text = new StringBuilder(m.getName()).append('(');
        for (int i = 0; i < m.getParameterCount(); i++) {
            text.append(i == 0 ? "" : ",").append(m.getParameterTypes()[i].getSimpleName());
        }
        return text.append(')').append(m.getReturnType().getSimpleName()).toString();
    }

    private static void otherMembers() {
        Set<String> names = new TreeSet<>();
        for (String s : FACE.split(" ")) {
            names.add(s.substring(0, s.indexOf('(')));
        }
        for (Method m : GrindMill.class.getDeclaredMethods()) {
            int is = m.getModifiers();
            CHECK.holds(m.getName() + " is public or private", Modifier.isPublic(is) || Modifier.isPrivate(is));
            CHECK.holds(m.getName() + " has a name of its own", Modifier.isPublic(is) || !names.contains(m.getName()));
        }
        Set<String> constants = Set.of("NONE", "BAD", "NO", "FULL");
        for (Field f : GrindMill.class.getDeclaredFields()) {
            CHECK.holds(f.getName() + " is private", Modifier.isPrivate(f.getModifiers()) != constants.contains(f.getName()));
            staticIsFinal(f);
        }
        Class<?>[] inside = GrindMill.class.getDeclaredClasses();
        CHECK.holds("some twelve classes", inside.length + 1 <= 12);
        for (Class<?> c : inside) {
            CHECK.holds(c + " is static and not public", Modifier.isStatic(c.getModifiers()) && !Modifier.isPublic(c.getModifiers()));
            CHECK.holds(c + " has some twenty fields", c.getDeclaredFields().length <= 20);
            for (Field f : c.getDeclaredFields()) {
                staticIsFinal(f);
            }
            for (Method m : c.getDeclaredMethods()) {
                CHECK.holds(m + " has a name of its own", !names.contains(m.getName()));
                CHECK.holds(m + " takes seven at most", m.getParameterCount() <= 7);
            }
        }
    }

    private static void staticIsFinal(Field f) {
        CHECK.holds(f + ": static fields are final", !Modifier.isStatic(f.getModifiers()) || Modifier.isFinal(f.getModifiers()));
    }

    private static void source(String code) {
        for (String word : new String[] {"throw", "throws", "try", "catch", "synchronized", "assert", "import", "package",
            "native", "volatile", "transient", "strictfp", "protected"}) {
            CHECK.holds("no " + word, !code.matches("(?s).*\\b" + word + "\\b.*"));
        }
        for (String sign : new String[] {"->", "::", "@", "Exact("}) {
            CHECK.holds("no " + sign, !code.contains(sign));
        }
        CHECK.holds("signs 1 to 127 alone", code.chars().allMatch(c -> c >= 1 && c <= 127));
        CHECK.holds("no block of static", !code.matches("(?s).*\\bstatic\\s*\\{.*"));
    }

    /** The source without comments and texts. */
    private static String code(String source) {
        return source.replaceAll("(?s)/\\*.*?\\*/", " ").replaceAll("//[^\n]*", " ").replaceAll("\"[^\"\n]*\"", "\"\"");
    }
}
