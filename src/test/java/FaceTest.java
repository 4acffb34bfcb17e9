import java.lang.reflect.Constructor;
import java.lang.reflect.Field;
import java.lang.reflect.Method;
import java.lang.reflect.Modifier;
import java.util.Arrays;
import java.util.Set;
import java.util.TreeSet;

/** The public face: what the document lists, and nothing that others could see beside it. */
public final class FaceTest {
    private static final String[] FACE = {
        "field int NONE", "TermsDesk()",
        "boolean asks(int, int, int, int)", "boolean bars(int, int)", "int part(int, int, int)",
        "boolean take(int, int)", "int join(int, int, int)", "boolean cut(int)", "boolean except(int, int, int)",
        "boolean product(int)", "int change(int, int, int, int)", "int come(int, int, int)", "int quarrels(int)",
        "int quarrel(int, int)", "int judge(int)", "int cheapest(int)", "int price(int)",
        "int way(int, int, int, int, int)", "int notice(int, int)", "int differ(int, int, int)",
        "int look(int, int)", "int count(int)"};

    public static void main(String[] args) {
        Set<String> due = new TreeSet<>(Arrays.asList(FACE));
        Set<String> found = new TreeSet<>();
        boolean right = Modifier.isPublic(TermsDesk.class.getModifiers()) && Modifier.isFinal(TermsDesk.class.getModifiers());
        for (Field f : TermsDesk.class.getDeclaredFields())
            if (!Modifier.isPrivate(f.getModifiers())) found.add("field " + f.getType() + " " + f.getName());
        for (Constructor<?> c : TermsDesk.class.getDeclaredConstructors())
            if (!Modifier.isPrivate(c.getModifiers())) found.add("TermsDesk" + parameters(c.getParameterTypes()));
        for (Method m : TermsDesk.class.getDeclaredMethods())
            if (!Modifier.isPrivate(m.getModifiers()))
                found.add(m.getReturnType() + " " + m.getName() + parameters(m.getParameterTypes()));
        for (Class<?> c : TermsDesk.class.getDeclaredClasses()) right &= Modifier.isStatic(c.getModifiers());
        right &= TermsDesk.NONE == -1;
        if (!right || !due.equals(found)) {
            System.out.println("the face is " + found + ", due is " + due);
            System.exit(1);
        }
        System.out.println("the face is as due");
    }

    private static String parameters(Class<?>[] types) {
        String all = Arrays.toString(types);
        return "(" + all.substring(1, all.length() - 1) + ")";
    }
}
