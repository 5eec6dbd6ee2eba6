import java.lang.reflect.Constructor;
import java.lang.reflect.Executable;
import java.lang.reflect.Field;
import java.lang.reflect.Method;
import java.lang.reflect.Modifier;
import java.util.Arrays;
import java.util.Set;
import java.util.TreeSet;
import java.util.stream.Collectors;

/** The public face of the document, and nothing beside it (rule 1 of LANGUAGE.md). */
final class FaceTest {
    private static final String S = " throws IllegalStateException";
    private static final String A = "IllegalArgumentException";
    private static final String U = "UnsupportedOperationException";
    private static final Set<String> FACE = new TreeSet<>(Set.of(
            "PledgeMonitor()", "boolean type(long)", "int erase()", "boolean free(int)",
            "int begin() throws " + A + "," + U, "boolean stop()", "int fault()",
            "int event(int,int)" + S + "," + A + "," + U, "int nextDay()" + S + "," + U,
            "boolean undo()", "int today()", "int duty(int)", "int count(int)", "int breaches(int)",
            "int may(int,int)", "int owed(int,int)", "int course(int,int)" + S + "," + A,
            "int threat(int,int)" + S + "," + A));

    public static void main(String[] args) throws ReflectiveOperationException {
        Check check = new Check();
        Class<?> face = PledgeMonitor.class;
        Set<String> got = new TreeSet<>();
        for (Constructor<?> constructor : face.getDeclaredConstructors()) {
            got.add(describe("PledgeMonitor", constructor));
            check.yes("public constructor", Modifier.isPublic(constructor.getModifiers()));
        }
        Set<String> publicNames = new TreeSet<>();
        for (Method method : face.getDeclaredMethods()) {
            if (!Modifier.isPrivate(method.getModifiers())) {
                got.add(describe(method.getReturnType() + " " + method.getName(), method));
                check.yes("public " + method.getName(), Modifier.isPublic(method.getModifiers()));
                check.no("static " + method.getName(), Modifier.isStatic(method.getModifiers()));
                publicNames.add(method.getName());
            }
        }
        if (!got.equals(FACE)) {
            System.out.println("the face is " + got + ", due is " + FACE);
        }
        check.yes("the face", got.equals(FACE));
        for (Field field : face.getDeclaredFields()) {
            check.yes("private " + field.getName(),
                    Modifier.isPrivate(field.getModifiers()) || field.getName().equals("NONE"));
        }
        check.eq("NONE", face.getField("NONE").getInt(null), -1);
        check.eq("NONE is public static final", face.getField("NONE").getModifiers(),
                Modifier.PUBLIC | Modifier.STATIC | Modifier.FINAL);
        check.eq("the class is public and final", face.getModifiers(), Modifier.PUBLIC | Modifier.FINAL);
        for (Class<?> inside : face.getDeclaredClasses()) {
            check.yes(inside + " is static", Modifier.isStatic(inside.getModifiers()));
            check.no(inside + " is public", Modifier.isPublic(inside.getModifiers()));
            for (Method method : inside.getDeclaredMethods()) {
                check.no(method + " bears a name of the face", publicNames.contains(method.getName()));
            }
        }
        check.end();
    }

    private static String describe(String name, Executable member) {
        String parameters = Arrays.stream(member.getParameterTypes())
                .map(Class::getSimpleName).collect(Collectors.joining(","));
        String exceptions = Arrays.stream(member.getExceptionTypes())
                .map(Class::getSimpleName).collect(Collectors.joining(","));
        return name + "(" + parameters + ")" + (exceptions.isEmpty() ? "" : " throws " + exceptions);
    }
}
