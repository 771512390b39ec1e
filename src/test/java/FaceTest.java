import java.lang.reflect.Constructor;
import java.lang.reflect.Field;
import java.lang.reflect.Method;
import java.lang.reflect.Modifier;
import java.util.ArrayList;
import java.util.List;
import java.util.Set;
import java.util.TreeSet;

/** The class has the members that the document names, and no other that is not private. */
public final class FaceTest {
    private static final List<String> METHODS = List.of(
        "int tree(int)", "int add(int, int)", "int ask(int, int)", "int remove(int, int)",
        "int split(int, int)", "boolean join(int, int)", "int clear(int)", "int look(int, int, int)",
        "int count(int, int)", "int best(int, int)", "int interleave(int)", "int sweep(int)",
        "int pages(int, int, int)", "int keep(int)", "int kept(int, int)");

    private static int wrong = 0;

    public static void main(String[] args) throws Exception {
        Class<?> it = TurningTrees.class;
        expect("the class is public", Modifier.isPublic(it.getModifiers()));
        expect("the class is final", Modifier.isFinal(it.getModifiers()));
        methods(it);
        constructors(it);
        fields(it);
        classesInside(it);
        System.out.println(wrong == 0 ? "the face is as due" : wrong + " faults of the face");
        if (wrong != 0) {
            System.exit(1);
        }
    }

    private static void methods(Class<?> it) {
        Set<String> seen = new TreeSet<>();
        Set<String> names = new TreeSet<>();
        for (Method method : it.getDeclaredMethods()) {
            if (Modifier.isPublic(method.getModifiers())) {
                seen.add(written(method));
                names.add(method.getName());
                expect(method + " is of the object", !Modifier.isStatic(method.getModifiers()));
            }
        }
        expect("the public methods are " + seen, seen.equals(new TreeSet<>(METHODS)));
        for (Method method : it.getDeclaredMethods()) {
            if (!Modifier.isPublic(method.getModifiers())) {
                expect(method + " is private", Modifier.isPrivate(method.getModifiers()));
                expect(method + " bears a name of its own", !names.contains(method.getName()));
            }
        }
    }

    private static String written(Method method) {
        List<String> types = new ArrayList<>();
        for (Class<?> type : method.getParameterTypes()) {
            types.add(type.getName());
        }
        return method.getReturnType().getName() + " " + method.getName() + "(" + String.join(", ", types) + ")";
    }

    private static void constructors(Class<?> it) {
        Constructor<?>[] all = it.getDeclaredConstructors();
        expect("one constructor", all.length == 1);
        expect("it is public", Modifier.isPublic(all[0].getModifiers()));
        expect("it takes nothing", all[0].getParameterCount() == 0);
    }

    private static void fields(Class<?> it) throws Exception {
        for (Field field : it.getDeclaredFields()) {
            boolean none = field.getName().equals("NONE");
            expect(field + " is private or NONE", none || Modifier.isPrivate(field.getModifiers()));
            boolean isStatic = Modifier.isStatic(field.getModifiers());
            expect(field + " is final, if static", !isStatic || Modifier.isFinal(field.getModifiers()));
        }
        Field none = it.getField("NONE");
        expect("NONE is -1", Modifier.isStatic(none.getModifiers()) && none.getInt(null) == -1);
    }

    private static void classesInside(Class<?> it) {
        for (Class<?> inside : it.getDeclaredClasses()) {
            int seenBy = inside.getModifiers();
            expect(inside + " is static", Modifier.isStatic(seenBy));
            expect(inside + " is not public or protected", !Modifier.isPublic(seenBy) && !Modifier.isProtected(seenBy));
        }
    }

    private static void expect(String what, boolean holds) {
        if (!holds) {
            wrong++;
            System.out.println("not so: " + what);
        }
    }
}
