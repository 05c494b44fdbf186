import java.lang.reflect.Constructor;
import java.lang.reflect.Field;
import java.lang.reflect.Method;
import java.lang.reflect.Modifier;
import java.util.Set;
import java.util.TreeSet;

/** The document's face: its constants, constructor and methods, and nothing else that can be seen from outside. */
public final class FaceTest {
    private static final String[] METHODS = {"int set(int,int,int)", "int told(int,int)", "int word(int,int)",
        "int writer(int,int,int)", "int law(int,int)", "int rule(int)", "int feed(int)", "int text()", "int force(int)",
        "int costs(int,int)", "int write(int,int)", "int pass(int)", "int cheapest(int,int,int)", "int day(int,int)",
        "int all(int)", "int when(int,int)", "int choose(int)", "int rest()", "int turns(int)", "int burn(int,int)",
        "int worst(int,int)", "int best(int)", "int judge(int)", "int fits(int,int)", "int whose(int)", "int drawn(int)",
        "long chance(int,int,int)", "int image()", "int back()", "int count(int)", "int sheet(int,int,int)",
        "int cell(int,int,int)", "int copy(int,int,int,int,int)", "int writers(int,int,int,int)", "int taken(int,int)"};

    public static void main(String[] args) {
        Class<?> face = DearerByUse.class;
        check("public and final", Modifier.isPublic(face.getModifiers()) && Modifier.isFinal(face.getModifiers()));
        methods(face);
        Constructor<?>[] made = face.getDeclaredConstructors();
        check("one constructor", made.length == 1 && made[0].getParameterCount() == 0
            && Modifier.isPublic(made[0].getModifiers()));
        constants(face);
        for (Class<?> inside : face.getDeclaredClasses()) {
            check("static and not public: " + inside, Modifier.isStatic(inside.getModifiers())
                && !Modifier.isPublic(inside.getModifiers()) && !Modifier.isProtected(inside.getModifiers()));
            fewFields(inside);
        }
        fewFields(face);
        check("some twelve classes", face.getDeclaredClasses().length < 12);
        Checks.end("FaceTest");
    }

    private static void check(String what, boolean holds) {
        Checks.due(what, holds ? 1 : 0, 1);
    }

    private static void fewFields(Class<?> of) {
        int fields = 0;
        for (Field f : of.getDeclaredFields()) {
            if (!Modifier.isStatic(f.getModifiers())) fields++;
        }
        check("some twenty fields: " + of + " has " + fields, fields <= 20);
    }

    private static void methods(Class<?> face) {
        Set<String> seen = new TreeSet<>();
        Set<String> names = new TreeSet<>();
        for (Method m : face.getDeclaredMethods()) {
            if (!Modifier.isPublic(m.getModifiers())) continue;
            StringBuilder takes = new StringBuilder();
            for (Class<?> p : m.getParameterTypes()) takes.append(takes.length() == 0 ? "" : ",").append(p);
            seen.add(m.getReturnType() + " " + m.getName() + "(" + takes + ")");
            names.add(m.getName());
            check("not static: " + m, !Modifier.isStatic(m.getModifiers()));
        }
        check("the methods of the face: " + seen, seen.equals(Set.of(METHODS)));
        for (Method m : face.getDeclaredMethods()) {
            if (Modifier.isPublic(m.getModifiers())) continue;
            check("private, and of another name: " + m, Modifier.isPrivate(m.getModifiers()) && !names.contains(m.getName()));
        }
        for (Class<?> inside : face.getDeclaredClasses()) {
            for (Method m : inside.getDeclaredMethods()) check("of another name: " + m, !names.contains(m.getName()));
        }
    }

    private static void constants(Class<?> face) {
        Set<String> seen = new TreeSet<>();
        for (Field f : face.getDeclaredFields()) {
            if (Modifier.isPublic(f.getModifiers())) seen.add(f.getType() + " " + f.getName());
            else check("private: " + f, Modifier.isPrivate(f.getModifiers()));
            check("static only if final: " + f, !Modifier.isStatic(f.getModifiers()) || Modifier.isFinal(f.getModifiers()));
        }
        check("the constants: " + seen, seen.equals(Set.of("int NONE", "int BAD", "int STATE", "int FULL", "long NO")));
        Checks.due("NONE", DearerByUse.NONE, -1);
        Checks.due("BAD", DearerByUse.BAD, -2);
        Checks.due("STATE", DearerByUse.STATE, -3);
        Checks.due("FULL", DearerByUse.FULL, -4);
        Checks.due("NO", DearerByUse.NO, -4611686018427387904L);
    }
}
