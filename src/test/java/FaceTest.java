import java.lang.reflect.Constructor;
import java.lang.reflect.Field;
import java.lang.reflect.Method;
import java.lang.reflect.Modifier;
import java.util.Set;
import java.util.TreeSet;

/** The public face of the document, and rules 1, 2, 5 and 11 of LANGUAGE.md as far as reflection shows them. */
public final class FaceTest {
    private static final Check CHECK = new Check("FaceTest");
    private static final String[] METHODS = {"int size(int,int)", "int wall(int,boolean)", "int set(int,int)",
        "int height(int)", "int drop(int,int)", "int topple(int)", "int settle()", "int feed(int)", "int read()",
        "int why(int)", "int settled(int)", "int trace(int,int)", "int common(int,int)", "int keep(int)", "int load(int)",
        "int pile(int,int)", "int sum(int,int,int)", "int nought(int)", "int times(int,int,int)", "int opposite(int,int)",
        "int order(int)", "int one(int,int)", "long group()", "int burn(int,int)", "int through()",
        "int avalanche(int,int)", "int again(int,int)", "int lots(int,int,int)", "int judge(int)", "int steadies(int)",
        "int film(int)", "int list(int,int)", "int put(int,int,int)", "long get(int,int)", "int undo()", "int redo()",
        "int count(int)"};
    private static final String[] CONSTANTS = {"int NONE", "int BAD", "int STATE", "int FULL", "int NOT", "int EMPTY",
        "long NO"};

    public static void main(String[] args) {
        methods();
        constants();
        insideClasses();
        CHECK.end();
    }

    private static String told(Method method) {
        StringBuilder text = new StringBuilder();
        text.append(method.getReturnType().getSimpleName()).append(' ').append(method.getName()).append('(');
        for (int i = 0; i < method.getParameterCount(); i++) {
            text.append(i > 0 ? "," : "").append(method.getParameterTypes()[i].getSimpleName());
        }
        return text.append(')').toString();
    }

    private static void methods() {
        Set<String> open = new TreeSet<>();
        for (Method method : SandGroup.class.getDeclaredMethods()) {
            if (!Modifier.isPrivate(method.getModifiers())) {
                open.add(told(method));
                CHECK.due(method + " is public and of the object", method.getModifiers(), Modifier.PUBLIC);
            }
        }
        CHECK.holds("the methods are those of the document: " + open, open.equals(new TreeSet<>(Set.of(METHODS))));
        Constructor<?>[] constructors = SandGroup.class.getDeclaredConstructors();
        CHECK.due("constructors", constructors.length, 1);
        CHECK.due("public", constructors[0].getModifiers(), Modifier.PUBLIC);
        CHECK.due("without parameters", constructors[0].getParameterCount(), 0);
        CHECK.due("the class", SandGroup.class.getModifiers(), Modifier.PUBLIC | Modifier.FINAL);
    }

    private static void constants() {
        Set<String> open = new TreeSet<>();
        for (Field field : SandGroup.class.getDeclaredFields()) {
            if (!Modifier.isPrivate(field.getModifiers())) {
                open.add(field.getType().getSimpleName() + " " + field.getName());
                CHECK.due(field + "", field.getModifiers(), Modifier.PUBLIC | Modifier.STATIC | Modifier.FINAL);
            }
        }
        CHECK.holds("the constants are those of the document: " + open, open.equals(new TreeSet<>(Set.of(CONSTANTS))));
        CHECK.due("NONE", SandGroup.NONE, -1);
        CHECK.due("BAD", SandGroup.BAD, -2);
        CHECK.due("STATE", SandGroup.STATE, -3);
        CHECK.due("FULL", SandGroup.FULL, -4);
        CHECK.due("NOT", SandGroup.NOT, -5);
        CHECK.due("EMPTY", SandGroup.EMPTY, -6);
        CHECK.due("NO", SandGroup.NO, Long.MIN_VALUE);
    }

    private static void insideClasses() {
        Set<String> faceNames = new TreeSet<>();
        for (Method method : SandGroup.class.getMethods()) {
            faceNames.add(method.getName());
        }
        Class<?>[] inside = SandGroup.class.getDeclaredClasses();
        CHECK.holds("twelve classes at most", inside.length < 12);
        for (Class<?> one : inside) {
            CHECK.holds(one + " is static", Modifier.isStatic(one.getModifiers()));
            CHECK.holds(one + " is not open", !Modifier.isPublic(one.getModifiers()));
            CHECK.holds(one + " has no classes inside", one.getDeclaredClasses().length == 0);
        }
        for (Method method : SandGroup.class.getDeclaredMethods()) {
            boolean taken = Modifier.isPrivate(method.getModifiers()) && faceNames.contains(method.getName());
            CHECK.holds(method + " bears a name of its own", !taken);
        }
        for (Class<?> one : inside) {
            for (Method method : one.getDeclaredMethods()) {
                CHECK.holds(method + " bears a name of its own", !faceNames.contains(method.getName()));
                CHECK.holds(method + " has seven parameters at most", method.getParameterCount() <= 7);
            }
        }
    }
}
