import java.lang.reflect.Constructor;
import java.lang.reflect.Field;
import java.lang.reflect.Method;
import java.lang.reflect.Modifier;
import java.util.HashSet;
import java.util.Set;
import java.util.TreeSet;

/** The public face of the document, and what LANGUAGE.md says of the class's members. */
public final class FaceTest {
    private static final Set<String> FACE = Set.of(
        "public static final int BAD_LETTER = -1",
        "public static final int FULL = -2",
        "public static final int NO_KEY = -3",
        "public static final int NO_VERSION = -4",
        "public static final int BAD_UPLOAD = -5",
        "public static final int BAD_PART = -6",
        "public static final int NONE = -7",
        "public BucketVersions()",
        "public int BucketVersions.type(int)",
        "public void BucketVersions.erase()",
        "public int BucketVersions.put(int)",
        "public int BucketVersions.remove()",
        "public int BucketVersions.destroy(int)",
        "public int BucketVersions.begin()",
        "public int BucketVersions.part(int,int,int)",
        "public int BucketVersions.complete(int,int)",
        "public int BucketVersions.abort(int)",
        "public int BucketVersions.expire(int)",
        "public int BucketVersions.get()",
        "public boolean BucketVersions.present()",
        "public int BucketVersions.content(int)",
        "public int BucketVersions.versionAt(int)",
        "public int BucketVersions.list(boolean)",
        "public int BucketVersions.entry(int,boolean)");

    private static int wrong = 0;

    private static void hold(boolean holds, String what) {
        if (!holds) {
            wrong++;
            System.out.println("does not hold: " + what);
        }
    }

    private static boolean isPrivate(int modifiers) {
        return Modifier.isPrivate(modifiers);
    }

    private static Set<String> visibleMembers(Class<?> type) throws IllegalAccessException {
        Set<String> members = new TreeSet<>();
        for (Field field : type.getDeclaredFields()) {
            if (!isPrivate(field.getModifiers())) {
                members.add(Modifier.toString(field.getModifiers()) + " " + field.getType() + " "
                    + field.getName() + " = " + field.get(null));
            }
        }
        for (Constructor<?> constructor : type.getDeclaredConstructors()) {
            members.add(constructor.toString());
        }
        for (Method method : type.getDeclaredMethods()) {
            if (!isPrivate(method.getModifiers())) {
                members.add(method.toString());
            }
        }
        return members;
    }

    private static boolean isNumberOrBoolean(Class<?> type) {
        return type.isPrimitive() && type != float.class && type != double.class && type != void.class;
    }

    private static boolean isAllowed(Class<?> type) {
        return isNumberOrBoolean(type) || type.isArray() && isNumberOrBoolean(type.getComponentType());
    }

    private static void checkFields(Class<?> type) {
        int fields = 0;
        for (Field field : type.getDeclaredFields()) {
            hold(isAllowed(field.getType()), "rule 2 for the field " + field.getName());
            if (Modifier.isStatic(field.getModifiers())) {
                boolean isConstant = Modifier.isFinal(field.getModifiers())
                    && (field.getType() == int.class || field.getType() == long.class);
                hold(isConstant, "rule 5 for the field " + field.getName());
            } else {
                fields++;
            }
        }
        hold(fields <= 40, "rule 10: at most some forty fields");
    }

    private static void checkMethods(Class<?> type) {
        Set<String> publicNames = new HashSet<>();
        for (Method method : type.getMethods()) {
            publicNames.add(method.getName());
        }
        for (Method method : type.getDeclaredMethods()) {
            hold(method.getParameterCount() <= 7, "rule 10 for the method " + method.getName());
            hold(method.getReturnType() == void.class || isNumberOrBoolean(method.getReturnType()),
                "rule 4 for the answer of the method " + method.getName());
            for (Class<?> parameter : method.getParameterTypes()) {
                hold(isAllowed(parameter), "rule 2 for the method " + method.getName());
            }
            hold(!isPrivate(method.getModifiers()) || !publicNames.contains(method.getName()),
                "rule 1 for the method " + method.getName());
        }
    }

    public static void main(String[] args) throws IllegalAccessException {
        Class<?> type = BucketVersions.class;
        hold(type.getModifiers() == (Modifier.PUBLIC | Modifier.FINAL), "the class is public and final");
        hold(type.getSuperclass() == Object.class && type.getInterfaces().length == 0,
            "the class extends and implements nothing");
        hold(type.getDeclaredClasses().length == 0, "there is no nested class");
        Set<String> members = visibleMembers(type);
        for (String member : members) {
            hold(FACE.contains(member), "the document has " + member);
        }
        for (String member : FACE) {
            hold(members.contains(member), "the class has " + member);
        }
        checkFields(type);
        checkMethods(type);
        System.out.println(wrong == 0 ? "the face is as due" : wrong + " things are not as due");
        if (wrong != 0) {
            System.exit(1);
        }
    }
}
