import java.lang.reflect.Field;
import java.lang.reflect.Method;
import java.lang.reflect.Modifier;
import java.util.ArrayList;
import java.util.Arrays;
import java.util.List;
import java.util.TreeSet;

/** The public face, to the letter, and nothing beside it. */
public final class FaceTest {
    private static final String METHODS =
        "int customer(int,int);int thing(int,int);int set(int,int,int);int told(int,int);int serve();"
        + "int feed(int);int text();int force(int);int turn();int errand(int,int);int nearest(int);"
        + "int best(int);int latest(int,int);int leave();int more(int);int stand(int);int change(int);"
        + "int lines(int);long likely(int);int slip(int,int);int served(int,int);int film(int,int);"
        + "int drawn(int);long chance(int,int,int);int image();int back();int count(int);"
        + "int sheet(int,int,int);int cell(int,int,int);int copy(int,int,int,int,int);"
        + "int customers(int,int,int,int);int taken(int,int)";

    public static void main(String[] args) {
        Check c = new Check();
        c.due("NONE", KeepOurPlace.NONE, -1);
        c.due("BAD", KeepOurPlace.BAD, -2);
        c.due("STATE", KeepOurPlace.STATE, -3);
        c.due("FULL", KeepOurPlace.FULL, -4);
        c.due("NO", KeepOurPlace.NO, -4611686018427387904L);
        Class<?> face = KeepOurPlace.class;
        c.holds("public and final", (face.getModifiers() & (Modifier.PUBLIC | Modifier.FINAL))
            == (Modifier.PUBLIC | Modifier.FINAL));
        c.due("constructors", face.getDeclaredConstructors().length, 1);
        c.holds("the constructor is public", Modifier.isPublic(face.getDeclaredConstructors()[0].getModifiers()));
        TreeSet<String> want = new TreeSet<>(Arrays.asList(METHODS.split(";")));
        TreeSet<String> got = new TreeSet<>();
        TreeSet<String> publicNames = new TreeSet<>();
        List<Method> hidden = new ArrayList<>();
        for (Method m : face.getDeclaredMethods()) {
            if (Modifier.isPrivate(m.getModifiers())) {
                hidden.add(m);
                continue;
            }
            publicNames.add(m.getName());
            List<String> kinds = new ArrayList<>();
            for (Class<?> p : m.getParameterTypes()) kinds.add(p.getSimpleName());
            String told = m.getReturnType().getSimpleName() + " " + m.getName() + "(" + String.join(",", kinds) + ")";
            got.add(told);
            c.holds(told + " is public", Modifier.isPublic(m.getModifiers()) && !Modifier.isStatic(m.getModifiers()));
        }
        c.holds("methods " + got, got.equals(want));
        TreeSet<String> constants = new TreeSet<>();
        for (Field f : face.getDeclaredFields()) if (!Modifier.isPrivate(f.getModifiers())) constants.add(f.getName());
        c.holds("constants " + constants,
            constants.equals(new TreeSet<>(Arrays.asList("NONE", "BAD", "STATE", "FULL", "NO"))));
        for (Class<?> inner : face.getDeclaredClasses()) {
            c.holds(inner + " is static and not public",
                Modifier.isStatic(inner.getModifiers()) && !Modifier.isPublic(inner.getModifiers()));
            hidden.addAll(Arrays.asList(inner.getDeclaredMethods()));
            checkFields(c, inner);
        }
        checkFields(c, face);
        for (Method m : hidden) {
            c.holds("no private " + m, !publicNames.contains(m.getName()));
            c.holds("at most seven parameters: " + m, m.getParameterCount() <= 7);
        }
        c.end();
    }

    private static void checkFields(Check c, Class<?> type) {
        int own = 0;
        for (Field f : type.getDeclaredFields()) {
            if (!Modifier.isStatic(f.getModifiers())) own++;
            else c.holds(f + " is final", Modifier.isFinal(f.getModifiers()));
        }
        c.holds("some twenty fields at most: " + type + " has " + own, own <= 20);
    }
}
