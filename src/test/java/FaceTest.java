import java.lang.reflect.Constructor;
import java.lang.reflect.Field;
import java.lang.reflect.Method;
import java.lang.reflect.Modifier;
import java.util.Arrays;
import java.util.Set;
import java.util.TreeSet;

/** The face is that of the document, and nothing else can be seen from outside. */
public final class FaceTest {
    private static final Checks checks = new Checks("FaceTest");
    private static final Set<String> METHODS = new TreeSet<>(Arrays.asList(
        "int letter(int)", "int blank()", "int fault()", "int graph()", "int node(int,int)", "int as(int,int)",
        "int dominates(int,int)", "int edge(int,int)", "int aim(int,int,int)", "int be(int,int)", "int walk(int)",
        "int visit(int)", "int sign(int)", "int fold(int)", "int mend(int)", "int see(int,int,int)", "int forget()",
        "int drawn(int,int,int)", "int image()", "int restore()", "int count(int)", "long digest()"));
    private static final Set<String> CONSTANTS =
        new TreeSet<>(Arrays.asList("NONE", "UNKNOWN", "OUTSIDE", "STATE", "FULL"));

    public static void main(String[] args) {
        Class<?> face = FlowFold.class;
        due("public and final", Modifier.isPublic(face.getModifiers()) && Modifier.isFinal(face.getModifiers()));
        methods(face);
        fields(face);
        Constructor<?>[] makers = face.getDeclaredConstructors();
        due("one constructor", makers.length == 1 && makers[0].getParameterCount() == 0
            && Modifier.isPublic(makers[0].getModifiers()));
        for (Class<?> inside : face.getDeclaredClasses()) {
            insides(inside);
        }
        checks.end();
    }

    private static void due(String what, boolean holds) {
        checks.due(what, holds ? 1 : 0, 1);
    }

    private static void methods(Class<?> face) {
        Set<String> seen = new TreeSet<>();
        Set<String> names = new TreeSet<>();
        for (Method method : face.getDeclaredMethods()) {
            if (!Modifier.isPrivate(method.getModifiers())) {
                seen.add(told(method));
                names.add(method.getName());
                due(method.getName() + " is public and of an object",
                    method.getModifiers() == Modifier.PUBLIC && method.getExceptionTypes().length == 0);
            }
        }
        due("the methods " + seen, seen.equals(METHODS));
        for (Method method : face.getDeclaredMethods()) {
            due(method.getName() + " bears a public name",
                !Modifier.isPrivate(method.getModifiers()) || !names.contains(method.getName()));
        }
    }

    private static String told(Method method) {
        StringBuilder text = new StringBuilder();
        for (Class<?> type : method.getParameterTypes()) {
            text.append(text.length() == 0 ? "" : ",").append(type.getName());
        }
        return method.getReturnType().getName() + " " + method.getName() + "(" + text + ")";
    }

    private static void fields(Class<?> face) {
        Set<String> seen = new TreeSet<>();
        for (Field field : face.getDeclaredFields()) {
            int how = field.getModifiers();
            if (!Modifier.isPrivate(how)) {
                seen.add(field.getName());
                due(field.getName() + " is a constant", field.getType() == int.class
                    && how == (Modifier.PUBLIC | Modifier.STATIC | Modifier.FINAL));
            }
            due(field.getName() + " is no static state", !Modifier.isStatic(how) || Modifier.isFinal(how));
        }
        due("the constants " + seen, seen.equals(CONSTANTS));
    }

    private static void insides(Class<?> inside) {
        due(inside.getName() + " is static", Modifier.isStatic(inside.getModifiers()));
        due(inside.getName() + " is not public or protected",
            !Modifier.isPublic(inside.getModifiers()) && !Modifier.isProtected(inside.getModifiers()));
        for (Field field : inside.getDeclaredFields()) {
            due(inside.getName() + " has no static state",
                !Modifier.isStatic(field.getModifiers()) || Modifier.isFinal(field.getModifiers()));
        }
    }
}
