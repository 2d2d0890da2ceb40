import java.lang.reflect.Constructor;
import java.lang.reflect.Field;
import java.lang.reflect.Method;
import java.lang.reflect.Modifier;
import java.util.Arrays;
import java.util.Set;
import java.util.TreeSet;

/** The class has the document's face and nothing more that could be seen from outside. */
public final class FaceTest {
    private static final String[] FACE = {
        "boolean fresh(int, int)", "int constant(int, boolean)", "int letter(int, int)",
        "int join(int, int, int, int)", "int fork(int, int, int, int)", "int fix(int, int, int, boolean)",
        "int put(int, int, int, int)", "int sum(int, int, int, boolean)", "int trade(int, int, int, int)",
        "int near(int, int, int)", "int copy(int, int)", "int swap(int)", "int sift(int)",
        "int cost(int, int)", "int same(int, int)", "int tells(int, int)", "int many(int)",
        "int pick(int, int)", "int cheapest(int)", "int dearest(int)", "int letters(int)", "int size(int)",
        "int width(int, int)", "int point(int)", "boolean go(boolean)", "int at()", "int level(int, int)",
        "int count(int)"
    };

    public static void main(String[] args) {
        Check check = new Check("FaceTest");
        Class<?> web = DecisionWeb.class;
        check.due("public and final", web.getModifiers(), Modifier.PUBLIC | Modifier.FINAL);
        checkMethods(check, web);
        for (Constructor<?> made : web.getDeclaredConstructors()) {
            check.due(made.toString(), made.getModifiers() == Modifier.PUBLIC && made.getParameterCount() == 0, true);
        }
        for (Field field : web.getDeclaredFields()) {
            boolean none = field.getName().equals("NONE") && field.getType() == int.class
                && field.getModifiers() == (Modifier.PUBLIC | Modifier.STATIC | Modifier.FINAL);
            check.due(field.toString(), none || Modifier.isPrivate(field.getModifiers()), true);
            boolean changing = Modifier.isStatic(field.getModifiers()) && !Modifier.isFinal(field.getModifiers());
            check.due(field + " is static and not final", changing, false);
        }
        for (Class<?> inside : web.getDeclaredClasses()) {
            int told = inside.getModifiers();
            check.due(inside.toString(), Modifier.isStatic(told) && !Modifier.isPublic(told) && !Modifier.isProtected(told), true);
        }
        check.due("NONE", DecisionWeb.NONE, -1);
        check.end();
    }

    private static void checkMethods(Check check, Class<?> web) {
        Set<String> due = new TreeSet<>(Arrays.asList(FACE));
        Set<String> publicNames = new TreeSet<>();
        for (Method method : web.getDeclaredMethods()) {
            if (!Modifier.isPrivate(method.getModifiers())) {
                check.due(method + " is public", method.getModifiers(), Modifier.PUBLIC);
                check.due(told(method) + " is in the document", due.remove(told(method)), true);
                publicNames.add(method.getName());
            }
        }
        check.due("methods that are missing: " + due, due.size(), 0);
        checkPrivateNames(check, web, publicNames);
        for (Class<?> holder : web.getDeclaredClasses()) {
            checkPrivateNames(check, holder, publicNames);
        }
    }

    private static void checkPrivateNames(Check check, Class<?> holder, Set<String> publicNames) {
        for (Method method : holder.getDeclaredMethods()) {
            if (Modifier.isPrivate(method.getModifiers())) {
                check.due(method + " has a public name", publicNames.contains(method.getName()), false);
            }
        }
    }

    private static String told(Method method) {
        StringBuilder text = new StringBuilder(method.getReturnType() + " " + method.getName() + "(");
        for (int i = 0; i < method.getParameterCount(); i++) {
            text.append(i == 0 ? "" : ", ").append(method.getParameterTypes()[i]);
        }
        return text.append(")").toString();
    }
}
