import java.lang.reflect.Constructor;
import java.lang.reflect.Field;
import java.lang.reflect.Method;
import java.lang.reflect.Modifier;
import java.util.ArrayList;
import java.util.Arrays;
import java.util.Collections;
import java.util.List;
import java.util.TreeSet;

/** The public face, the constants, and the rules of LANGUAGE.md on members. */
public final class FaceTest {
    private static final String[] METHODS = {
        "int land(int,int)", "int ship(int,int)", "int watcher(int,int)", "int fog(int)", "int say(int)",
        "int wipe()", "int fault()", "int judge(int)", "int behind(int)", "int seen(int)", "int silence(int)",
        "int done()", "int course(int,int,int)", "int cross(int,int,int,int,int)", "int ropes(int,int,int,int)",
        "int look(int,int,boolean)", "int forget()", "int light(int)", "int ask(int)", "int tack(int,int)",
        "long first(int,int,int,int,int)", "int year(int,int,int)", "int image(int)", "int restore(int)",
        "int told(int)"};
    private static final Due DUE = new Due();

    public static void main(String[] args) throws Exception {
        Class<?> face = MastPulpits.class;
        DUE.is("public final", face.getModifiers(), Modifier.PUBLIC | Modifier.FINAL);
        methods(face);
        constants(face);
        Constructor<?>[] constructors = face.getDeclaredConstructors();
        DUE.is("constructors", constructors.length, 1);
        DUE.is("public constructor", constructors[0].getModifiers(), Modifier.PUBLIC);
        DUE.is("its parameters", constructors[0].getParameterCount(), 0);
        insideClasses(face);
        DUE.end();
    }

    private static void methods(Class<?> face) {
        List<String> found = new ArrayList<>();
        TreeSet<String> publicNames = new TreeSet<>();
        for (Method method : face.getDeclaredMethods()) {
            if (Modifier.isPrivate(method.getModifiers())) {
                continue;
            }
            List<String> types = new ArrayList<>();
            for (Class<?> type : method.getParameterTypes()) {
                types.add(type.getName());
            }
            found.add(method.getReturnType().getName() + " " + method.getName()
                + "(" + String.join(",", types) + ")");
            publicNames.add(method.getName());
            DUE.is(method + " is public alone", method.getModifiers(), Modifier.PUBLIC);
        }
        List<String> due = new ArrayList<>(Arrays.asList(METHODS));
        Collections.sort(due);
        Collections.sort(found);
        DUE.is("methods " + found, found.equals(due) ? 1 : 0, 1);
        privateNames(face, publicNames);
    }

    private static void privateNames(Class<?> face, TreeSet<String> publicNames) {
        for (Method method : face.getDeclaredMethods()) {
            if (Modifier.isPrivate(method.getModifiers())) {
                DUE.is(method + " bears a public name", publicNames.contains(method.getName()) ? 1 : 0, 0);
            }
        }
        for (Class<?> inside : face.getDeclaredClasses()) {
            for (Method method : inside.getDeclaredMethods()) {
                DUE.is(method + " bears a public name", publicNames.contains(method.getName()) ? 1 : 0, 0);
            }
        }
    }

    private static void constants(Class<?> face) throws Exception {
        String[] names = {"UNKNOWN", "OUTSIDE", "STATE", "FULL", "NO", "NONE"};
        int open = 0;
        for (Field field : face.getDeclaredFields()) {
            open += Modifier.isPrivate(field.getModifiers()) ? 0 : 1;
        }
        DUE.is("fields that are not private", open, names.length + 1);
        for (int i = 0; i < names.length; i++) {
            Field field = face.getDeclaredField(names[i]);
            DUE.is(names[i] + "'s modifiers", field.getModifiers(),
                Modifier.PUBLIC | Modifier.STATIC | Modifier.FINAL);
            DUE.is(names[i], field.getInt(null), -1 - i);
        }
        DUE.is("GONE", face.getDeclaredField("GONE").getLong(null), -1000000000000000000L);
    }

    private static void insideClasses(Class<?> face) {
        Class<?>[] inside = face.getDeclaredClasses();
        DUE.is("at most twelve classes", inside.length <= 11 ? 1 : 0, 1);
        for (Class<?> one : inside) {
            int modifiers = one.getModifiers();
            DUE.is(one + " is static", Modifier.isStatic(modifiers) ? 1 : 0, 1);
            DUE.is(one + " is open", Modifier.isPublic(modifiers) || Modifier.isProtected(modifiers) ? 1 : 0, 0);
            int own = 0;
            for (Field field : one.getDeclaredFields()) {
                own += Modifier.isStatic(field.getModifiers()) ? 0 : 1;
            }
            DUE.is(one + " has at most twenty fields", own <= 20 ? 1 : 0, 1);
        }
    }
}
