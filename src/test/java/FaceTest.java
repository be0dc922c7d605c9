import java.lang.reflect.Constructor;
import java.lang.reflect.Field;
import java.lang.reflect.Method;
import java.lang.reflect.Modifier;
import java.util.HashSet;
import java.util.Set;
import java.util.TreeSet;

/** The public face is the document's and no more; the members keep to rules 1, 2, 5 and 10 of LANGUAGE.md. */
public final class FaceTest {
    private static final Due DUE = new Due();

    private static final String[] FACE = {
        "public static final int BAD",
        "public static final int FULL",
        "public WeaveStore()",
        "public int WeaveStore.open(int)",
        "public int WeaveStore.put(int,int)",
        "public int WeaveStore.cut(int)",
        "public int WeaveStore.close()",
        "public boolean WeaveStore.discard()",
        "public int WeaveStore.versions()",
        "public int WeaveStore.length(int)",
        "public int WeaveStore.line(int,int)",
        "public int WeaveStore.origin(int,int)",
        "public int WeaveStore.base(int)",
        "public int WeaveStore.ancestors(int)",
        "public int WeaveStore.shared(int,int)",
        "public int WeaveStore.placeIn(int,int,int)",
        "public int WeaveStore.having(int,int)",
        "public int WeaveStore.draft(int)",
    };

    public static void main(String[] args) {
        face();
        fields();
        DUE.end();
    }

    private static void face() {
        Set<String> open = new TreeSet<>();
        Set<String> publicNames = new HashSet<>();
        for (Field field : WeaveStore.class.getDeclaredFields()) {
            if (!Modifier.isPrivate(field.getModifiers())) {
                open.add(Modifier.toString(field.getModifiers()) + " " + field.getType() + " " + field.getName());
            }
        }
        for (Constructor<?> made : WeaveStore.class.getDeclaredConstructors()) {
            open.add(made.toString());
        }
        for (Method method : WeaveStore.class.getDeclaredMethods()) {
            if (!Modifier.isPrivate(method.getModifiers())) {
                open.add(method.toString());
                publicNames.add(method.getName());
            }
        }
        for (String member : FACE) {
            DUE.same("has " + member, open.remove(member), true);
        }
        DUE.same("members beyond the face " + open, open.size(), 0);
        for (Method method : WeaveStore.class.getDeclaredMethods()) {
            if (Modifier.isPrivate(method.getModifiers())) {
                DUE.same("private name is free " + method, publicNames.contains(method.getName()), false);
            }
            DUE.same("at most seven parameters " + method, method.getParameterCount() <= 7, true);
        }
        DUE.same("class is public final", WeaveStore.class.getModifiers(), Modifier.PUBLIC | Modifier.FINAL);
        DUE.same("no nested class", WeaveStore.class.getDeclaredClasses().length, 0);
    }

    private static void fields() {
        int own = 0;
        for (Field field : WeaveStore.class.getDeclaredFields()) {
            Class<?> type = field.getType();
            if (Modifier.isStatic(field.getModifiers())) {
                DUE.same("constant " + field, Modifier.isFinal(field.getModifiers())
                        && (type == int.class || type == long.class), true);
            } else {
                own++;
                Class<?> cell = type.isArray() ? type.getComponentType() : type;
                DUE.same("type of " + field, cell.isPrimitive()
                        && cell != float.class && cell != double.class, true);
            }
        }
        DUE.same("at most forty fields", own <= 40, true);
    }
}
