import java.lang.reflect.Constructor;
import java.lang.reflect.Field;
import java.lang.reflect.Method;
import java.lang.reflect.Modifier;
import java.util.Arrays;
import java.util.NoSuchElementException;
import java.util.TreeSet;

/** The public face, as the document writes it, and nothing beside it (LANGUAGE.md, rules 1, 5 and 11). */
public final class FaceTest {
    private static final String[] METHODS = {
        "boolean holds(int)", "boolean shut(int,int)", "int count(int)", "int feed(long,long,long)",
        "int group(int,int,int,int,int,int)", "int guests(int,int)", "int guide(int)", "int lies(int,int)",
        "int look(int,int)", "int minutes(int)", "int plan()", "int planned(int)", "int rides(int,int)",
        "int ship(int,int,int)", "int tender(int,int)", "int text()", "int tour(int,int,int,int)"};

    public static void main(String[] args) throws Exception {
        Check check = new Check("FaceTest");
        check.same("NONE", ShoreDay.NONE, -1);
        check.yes("the class is public and final", ShoreDay.class.getModifiers() == (Modifier.PUBLIC | Modifier.FINAL));
        methods(check);
        fieldsAndConstructors(check);
        classesInside(check);
        check.end();
    }

    private static void methods(Check check) throws Exception {
        TreeSet<String> open = new TreeSet<>();
        TreeSet<String> openNames = new TreeSet<>();
        for (Method method : ShoreDay.class.getDeclaredMethods()) {
            if (!Modifier.isPrivate(method.getModifiers())) {
                String types = String.join(",", Arrays.stream(method.getParameterTypes()).map(Class::getName).toList());
                open.add(method.getReturnType().getName() + " " + method.getName() + "(" + types + ")");
                openNames.add(method.getName());
                check.same(method.getName() + " is plainly public", method.getModifiers(), Modifier.PUBLIC);
            }
        }
        check.yes("the methods are those of the document: " + open, open.equals(new TreeSet<>(Arrays.asList(METHODS))));
        for (Method method : ShoreDay.class.getDeclaredMethods()) {
            if (Modifier.isPrivate(method.getModifiers())) {
                check.no(method.getName() + " bears a public name", openNames.contains(method.getName()));
            }
        }
        Class<?>[] thrown = ShoreDay.class.getMethod("look", int.class, int.class).getExceptionTypes();
        check.yes("look names its exception", thrown.length == 1 && thrown[0] == NoSuchElementException.class);
    }

    private static void fieldsAndConstructors(Check check) {
        for (Field field : ShoreDay.class.getDeclaredFields()) {
            boolean isNone = field.getName().equals("NONE");
            check.yes(field.getName() + " is private, or NONE", Modifier.isPrivate(field.getModifiers()) != isNone);
            boolean isStatic = Modifier.isStatic(field.getModifiers());
            check.yes(field.getName() + " is final if static", !isStatic || Modifier.isFinal(field.getModifiers()));
        }
        Constructor<?>[] constructors = ShoreDay.class.getDeclaredConstructors();
        check.same("constructors", constructors.length, 1);
        check.same("parameters of the constructor", constructors[0].getParameterCount(), 0);
        check.yes("the constructor is public", Modifier.isPublic(constructors[0].getModifiers()));
    }

    private static void classesInside(Check check) {
        check.yes("at most twelve classes", ShoreDay.class.getDeclaredClasses().length < 12);
        for (Class<?> inside : ShoreDay.class.getDeclaredClasses()) {
            int modifiers = inside.getModifiers();
            check.yes(inside.getName() + " is static", Modifier.isStatic(modifiers));
            check.no(inside.getName() + " is open", Modifier.isPublic(modifiers) || Modifier.isProtected(modifiers));
        }
    }
}
