import java.io.IOException;
import java.lang.reflect.Constructor;
import java.lang.reflect.Field;
import java.lang.reflect.Method;
import java.lang.reflect.Modifier;
import java.nio.file.Files;
import java.nio.file.Path;
import java.util.Set;
import java.util.TreeSet;

/** The document's face, and the rules of the language that can be read off the class and its text. */
public final class FaceTest {
    private static final String FACE = "again=boolean int ahead=int int,int back=int cast=int int,int,int "
        + "chance=int int,int,int clear=long int,int count=int int doing=int int,int fault=int int "
        + "feed=int int,int,int,int,int go=int int homes=int int keep=int known=boolean int lamp=int int,int "
        + "lampsFor=int int,int law=long int,int light=boolean int,boolean man=int int,int named=int int,int "
        + "out=int int plan=int int rest=int int,int,int rests=int int,int see=int int,int,int,int,boolean "
        + "step=int int text=int int tried=int int,int,int undo=int wall=int int,int way=int int,int "
        + "when=int int where=int int";

    public static void main(String[] args) throws IOException {
        Check.due("NONE", ShadowTwin.NONE, -1);
        Check.due("final", Modifier.isFinal(ShadowTwin.class.getModifiers()), true);
        methods();
        membersElse();
        source(Files.readString(Path.of("src/main/java/ShadowTwin.java")));
        Check.end();
    }

    private static String signature(Method method) {
        StringBuilder s = new StringBuilder(method.getName()).append('=').append(method.getReturnType());
        String before = " ";
        for (Class<?> type : method.getParameterTypes()) {
            s.append(before).append(type);
            before = ",";
        }
        return s.toString();
    }

    private static void methods() {
        Set<String> got = new TreeSet<>();
        Set<String> names = new TreeSet<>();
        for (Method method : ShadowTwin.class.getDeclaredMethods()) {
            if (!Modifier.isPrivate(method.getModifiers())) {
                got.add(signature(method));
                names.add(method.getName());
            }
        }
        Check.same("the methods", String.join(" ", got), FACE);
        Check.due("how many", got.size(), 33);
        for (Method method : ShadowTwin.class.getMethods()) {
            if (names.contains(method.getName())) {
                Check.same(method.getName() + " throws", thrown(method),
                    method.getName().equals("doing") ? "IndexOutOfBoundsException NoSuchElementException " : "");
            }
        }
        for (Method method : ShadowTwin.class.getDeclaredMethods()) {
            boolean isPrivate = Modifier.isPrivate(method.getModifiers());
            Check.due("private " + method.getName(), isPrivate && names.contains(method.getName()), false);
        }
    }

    private static String thrown(Method method) {
        StringBuilder s = new StringBuilder();
        for (Class<?> type : method.getExceptionTypes()) {
            s.append(type.getSimpleName()).append(' ');
        }
        return s.toString();
    }

    private static void membersElse() {
        for (Field field : ShadowTwin.class.getDeclaredFields()) {
            boolean isFace = field.getName().equals("NONE");
            Check.due(field.getName(), Modifier.isPrivate(field.getModifiers()), !isFace);
            mutableStatic(field);
        }
        for (Constructor<?> constructor : ShadowTwin.class.getDeclaredConstructors()) {
            Check.due("constructor", Modifier.isPublic(constructor.getModifiers()), true);
            Check.due("its parameters", constructor.getParameterCount(), 0);
        }
        Class<?>[] inside = ShadowTwin.class.getDeclaredClasses();
        Check.due("at most some twelve classes", inside.length < 12, true);
        for (Class<?> one : inside) {
            Check.due(one.getName() + " is static", Modifier.isStatic(one.getModifiers()), true);
            int fields = 0;
            for (Field field : one.getDeclaredFields()) {
                mutableStatic(field);
                fields += Modifier.isStatic(field.getModifiers()) ? 0 : 1;
            }
            Check.due(one.getName() + " has some twenty fields", fields <= 20, true);
        }
    }

    private static void mutableStatic(Field field) {
        int is = field.getModifiers();
        Check.due(field.getName(), Modifier.isStatic(is) && !Modifier.isFinal(is), false);
    }

    /** Words that the rules leave out; comments speak English, so only signs and calls are looked for. */
    private static void source(String text) {
        String[] out = {"->", "::", "try {", "catch (", "finally {", "synchronized", "assert ", "System.", "Exact(",
            "\" +", "+ \"", ".toString()", ".hashCode()", "Object ", "static {", "while (true)", "for (;;)", "double ", "float "};
        for (String word : out) {
            Check.due("the source has " + word, text.contains(word), false);
        }
        Check.due("throws", text.split("throw new ").length - 1, 2);
        Check.due("imports", text.split("import ").length - 1, 1);
    }
}
