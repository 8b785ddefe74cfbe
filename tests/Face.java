import java.lang.reflect.Constructor;
import java.lang.reflect.Field;
import java.lang.reflect.Method;
import java.lang.reflect.Modifier;
import java.util.ArrayList;
import java.util.Arrays;
import java.util.List;
import java.util.TreeSet;

// The class bears the document's face and no more, and its form is as LANGUAGE.md has it.
public final class Face {
    private static final String[] FACE = {
        "int type(long,int)", "int clear()", "int faulty()", "int minutes()", "int put(int,int)",
        "int prior(int,int)", "int fault(int,int,int)", "int warm(int)", "int gives(int,int,int,int)",
        "int smoke(int,int,int)", "int goes(int)", "int look(int,int,int,int)", "int forget()",
        "int odds(int,int)", "int two()", "int likeliest()", "int guess(int,int)", "int next(int)",
        "int leaks(int)", "int hidden()", "int gone(int,int,int)", "int harvest(int,int,int,int)",
        "int drive(int,int,int,int)", "int part(int,int,int)", "int takes(int)", "int sign(int)",
        "int limb(int,int)", "int image(int)", "int from(int)", "int status(int)", "int count(int)",
        "long digest()"};
    private static int wrong = 0;

    private static void must(String what, boolean holds) {
        if (!holds) {
            wrong++;
            System.out.println("not so: " + what);
        }
    }

    private static String told(Method method) {
        List<String> kinds = new ArrayList<>();
        for (Class<?> kind : method.getParameterTypes()) {
            kinds.add(kind.getSimpleName());
        }
        return method.getReturnType().getSimpleName() + " " + method.getName() + "(" + String.join(",", kinds) + ")";
    }

    private static void methods() {
        TreeSet<String> open = new TreeSet<>();
        TreeSet<String> openNames = new TreeSet<>();
        for (Method method : BlueSmoke.class.getDeclaredMethods()) {
            if (Modifier.isPublic(method.getModifiers())) {
                open.add(told(method));
                openNames.add(method.getName());
                must(method + " is of an object", !Modifier.isStatic(method.getModifiers()));
            }
        }
        must("the face is " + open, open.equals(new TreeSet<>(Arrays.asList(FACE))));
        for (Method method : BlueSmoke.class.getDeclaredMethods()) {
            int is = method.getModifiers();
            must(method + " is public or private", Modifier.isPublic(is) || Modifier.isPrivate(is) || method.isSynthetic());
            must(method + " bears no name of a public one",
                    Modifier.isPublic(is) || !openNames.contains(method.getName()));
        }
        for (Class<?> inside : BlueSmoke.class.getDeclaredClasses()) {
            for (Method method : inside.getDeclaredMethods()) {
                must(method + " bears no name of a public one", !openNames.contains(method.getName()));
            }
        }
    }

    private static void fields() throws IllegalAccessException {
        TreeSet<String> constants = new TreeSet<>();
        for (Field field : BlueSmoke.class.getDeclaredFields()) {
            if (Modifier.isPublic(field.getModifiers())) {
                must(field + " is a constant int", Modifier.isStatic(field.getModifiers())
                        && Modifier.isFinal(field.getModifiers()) && field.getType() == int.class);
                constants.add(field.getName() + " " + field.getInt(null));
            } else {
                must(field + " is private", Modifier.isPrivate(field.getModifiers()));
            }
        }
        must("the constants are " + constants,
                constants.equals(new TreeSet<>(Arrays.asList("NONE -1", "BAD -2", "NO -3", "FULL -4"))));
    }

    private static void form(Class<?> one) {
        int own = 0;
        for (Field field : one.getDeclaredFields()) {
            if (Modifier.isStatic(field.getModifiers())) {
                must(field + " is final", Modifier.isFinal(field.getModifiers()));
            } else {
                own++;
            }
        }
        must(one + " has at most 20 fields", own <= 20);
        for (Method method : one.getDeclaredMethods()) {
            must(method + " takes at most seven", method.getParameterCount() <= 7);
        }
    }

    public static void main(String[] args) throws IllegalAccessException {
        must("public and final", Modifier.isPublic(BlueSmoke.class.getModifiers())
                && Modifier.isFinal(BlueSmoke.class.getModifiers()));
        Constructor<?>[] made = BlueSmoke.class.getDeclaredConstructors();
        must("one public constructor", made.length == 1 && Modifier.isPublic(made[0].getModifiers())
                && made[0].getParameterCount() == 0);
        methods();
        fields();
        form(BlueSmoke.class);
        Class<?>[] inside = BlueSmoke.class.getDeclaredClasses();
        must("at most twelve classes", inside.length + 1 <= 12);
        for (Class<?> one : inside) {
            int is = one.getModifiers();
            must(one + " is static and not open", Modifier.isStatic(is) && !Modifier.isPublic(is) && !Modifier.isProtected(is));
            form(one);
        }
        System.out.println(wrong == 0 ? "the face is as told" : wrong + " faults of the face");
        if (wrong != 0) {
            System.exit(1);
        }
    }
}
