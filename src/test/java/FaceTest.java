import java.lang.reflect.Constructor;
import java.lang.reflect.Field;
import java.lang.reflect.Method;
import java.lang.reflect.Modifier;
import java.util.Set;
import java.util.TreeSet;

/** The class shows the members of the document's face and no other, as rules 1, 2 and 5 of LANGUAGE.md ask. */
public final class FaceTest {
    private static final String[] FACE = {
        "public final class SuccinctSuite",
        "public static final int SuccinctSuite.BAD",
        "public static final int SuccinctSuite.FULL",
        "public SuccinctSuite()",
        "public int SuccinctSuite.append(int,int)",
        "public int SuccinctSuite.again(int,int)",
        "public int SuccinctSuite.change(int,int)",
        "public int SuccinctSuite.cut(int)",
        "public int SuccinctSuite.at(int,int)",
        "public int SuccinctSuite.rank(int,int,int)",
        "public int SuccinctSuite.select(int,int,int)",
        "public int SuccinctSuite.below(int,int,int,int)",
        "public int SuccinctSuite.ordered(int,int,int,int)",
        "public int SuccinctSuite.most(int,int,int)",
        "public int SuccinctSuite.different(int,int)",
        "public int SuccinctSuite.next(int,int)",
        "public int SuccinctSuite.runs()",
        "public boolean SuccinctSuite.agree(int,int)",
        "public int SuccinctSuite.bits()",
    };
    private static int wrong = 0;

    private static void hold(String what, boolean holds) {
        if (!holds) {
            wrong++;
            System.out.println(what);
        }
    }

    private static Set<String> faceOf(Class<?> type) {
        Set<String> face = new TreeSet<>();
        face.add(type.toGenericString());
        for (Field field : type.getDeclaredFields()) {
            if (!Modifier.isPrivate(field.getModifiers())) face.add(field.toString());
        }
        for (Constructor<?> constructor : type.getDeclaredConstructors()) {
            if (!Modifier.isPrivate(constructor.getModifiers())) face.add(constructor.toString());
        }
        for (Method method : type.getDeclaredMethods()) {
            if (!Modifier.isPrivate(method.getModifiers())) face.add(method.toString());
        }
        return face;
    }

    private static void checkNames(Class<?> type) {
        Set<String> open = new TreeSet<>();
        for (Method method : type.getDeclaredMethods()) {
            if (Modifier.isPublic(method.getModifiers())) open.add(method.getName());
        }
        for (Method method : type.getDeclaredMethods()) {
            boolean hidden = Modifier.isPrivate(method.getModifiers());
            hold("a private method bears a public name: " + method, !hidden || !open.contains(method.getName()));
            hold("more than seven parameters: " + method, method.getParameterCount() <= 7);
        }
    }

    private static void checkFields(Class<?> type) {
        int count = 0;
        for (Field field : type.getDeclaredFields()) {
            Class<?> kind = field.getType();
            if (Modifier.isStatic(field.getModifiers())) {
                boolean number = kind == int.class || kind == long.class;
                hold("not a constant of int or long: " + field, number && Modifier.isFinal(field.getModifiers()));
            } else {
                count++;
                Class<?> part = kind.isArray() ? kind.getComponentType() : kind;
                hold("not a number or an array of numbers: " + field, part.isPrimitive() && part != float.class && part != double.class);
            }
        }
        hold("more than forty fields: " + count, count <= 40);
    }

    public static void main(String[] args) {
        Class<?> type = SuccinctSuite.class;
        Set<String> want = new TreeSet<>(Set.of(FACE));
        Set<String> got = faceOf(type);
        for (String member : want) {
            hold("missing: " + member, got.contains(member));
        }
        for (String member : got) {
            hold("not in the document: " + member, want.contains(member));
        }
        hold("a nested class", type.getDeclaredClasses().length == 0);
        hold("BAD is not -1", SuccinctSuite.BAD == -1);
        hold("FULL is not -2", SuccinctSuite.FULL == -2);
        checkNames(type);
        checkFields(type);
        System.out.println(wrong == 0 ? "the face is as due" : wrong + " faults in the face");
        if (wrong != 0) {
            System.exit(1);
        }
    }
}
