import java.lang.reflect.Constructor;
import java.lang.reflect.Field;
import java.lang.reflect.Method;
import java.lang.reflect.Modifier;
import java.util.Arrays;
import java.util.Set;
import java.util.TreeSet;

/** The class has the document's face, and nothing else that can be seen from outside. */
public final class FaceTest {
    private static final String[] METHODS = {
        "int type(long,int)", "int blob()", "int entry(int,int)", "int tree()", "int commit(int,int,int)",
        "boolean branch(int,int)", "int held(int)", "int sweep()", "int things()", "int kind(int)", "int size(int)",
        "int byteOf(int,int)", "int name(int,int)", "boolean reached(int)", "int pack()", "int packed()",
        "int packByte(int)", "boolean alter(int,int)", "boolean cut(int)", "boolean seal()", "int unpack()"};
    private static final String[] CONSTANTS = {
        "BAD=-1", "FULL=-2", "SHORT=-3", "SEAL=-4", "ENDS=-5", "TYPE=-6", "LARGE=-7", "BASE=-8", "WRAP=-9",
        "DIFFERENCE=-10"};

    public static void main(String[] args) throws Exception {
        Check check = new Check();
        check.part("face");
        int kind = PackShelf.class.getModifiers();
        check.due("public and final", Modifier.isPublic(kind) && Modifier.isFinal(kind), true);
        same(check, "methods", methods(), METHODS);
        same(check, "constants", constants(), CONSTANTS);
        Constructor<?>[] constructors = PackShelf.class.getDeclaredConstructors();
        check.due("constructors", constructors.length, 1);
        check.due("parameters", constructors[0].getParameterCount(), 0);
        check.due("public constructor", Modifier.isPublic(constructors[0].getModifiers()), true);
        inside(check);
        check.end();
    }

    /** Rules 1, 5 and 11 of LANGUAGE.md, as far as they can be seen from here. */
    private static void inside(Check check) {
        Class<?>[] classes = PackShelf.class.getDeclaredClasses();
        check.due("at most twelve classes", classes.length < 12, true);
        noStaticState(check, PackShelf.class);
        for (Class<?> one : classes) {
            int kind = one.getModifiers();
            check.due(one.getName() + " is static", Modifier.isStatic(kind), true);
            check.due(one.getName() + " is not public", Modifier.isPublic(kind) || Modifier.isProtected(kind), false);
            noStaticState(check, one);
        }
        Set<String> names = new TreeSet<>();
        for (String method : METHODS) {
            names.add(method.substring(method.indexOf(' ') + 1, method.indexOf('(')));
        }
        for (Method method : PackShelf.class.getDeclaredMethods()) {
            if (Modifier.isPrivate(method.getModifiers())) {
                check.due("a private " + method.getName(), names.contains(method.getName()), false);
            }
        }
    }

    private static void noStaticState(Check check, Class<?> one) {
        for (Field field : one.getDeclaredFields()) {
            int kind = field.getModifiers();
            check.due(one.getName() + "." + field.getName() + " is final if it is static",
                    Modifier.isFinal(kind) || !Modifier.isStatic(kind), true);
        }
    }

    private static void same(Check check, String what, Set<String> got, String[] want) {
        boolean alike = got.equals(new TreeSet<>(Arrays.asList(want)));
        if (!alike) {
            System.out.println(what + " are " + got);
        }
        check.due(what, alike, true);
    }

    private static Set<String> methods() {
        Set<String> found = new TreeSet<>();
        for (Method method : PackShelf.class.getDeclaredMethods()) {
            if (!Modifier.isPrivate(method.getModifiers()) && !method.isSynthetic()) {
                StringBuilder row = new StringBuilder();
                for (Class<?> parameter : method.getParameterTypes()) {
                    row.append(row.length() == 0 ? "" : ",").append(parameter.getName());
                }
                found.add(method.getReturnType().getName() + " " + method.getName() + "(" + row + ")");
            }
        }
        return found;
    }

    private static Set<String> constants() throws IllegalAccessException {
        Set<String> found = new TreeSet<>();
        for (Field field : PackShelf.class.getDeclaredFields()) {
            if (!Modifier.isPrivate(field.getModifiers())) {
                found.add(field.getName() + "=" + field.getInt(null));
            }
        }
        return found;
    }
}
