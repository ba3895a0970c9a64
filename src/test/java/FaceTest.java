import java.lang.reflect.Constructor;
import java.lang.reflect.Field;
import java.lang.reflect.Member;
import java.lang.reflect.Method;
import java.lang.reflect.Modifier;
import java.util.ArrayList;
import java.util.List;
import java.util.TreeSet;

/** The public face is the document's, and nothing else of the class can be seen. */
public final class FaceTest {
    private static final String[] FACE = {
        "int feed(long)", "int end(int)", "int text()", "int fault()", "int rule(int)",
        "int out(int)", "int lsb(int)", "long wide(int,int)", "long bent(int,int)",
        "long worst(int,int)", "int back(int)", "int nearest(int)", "int halves(int,int)",
        "int range(int)", "int weak(int)", "int stick(int,int)", "int string(int,int,int)",
        "int node(int,int)", "int strings(int,int)", "int slopes(int,int,int,int,int)",
        "int hum(int,int,int,int)", "int kept(int,int,int,int)", "int ones(int,int,int)",
        "int round(int,int,int)", "int measure(int,int)", "long reckon(int)", "int adopt()",
        "int apart(int)", "int sheet(int,int,int)", "int lay(int,int,int)",
        "int wave(int,int,int,int,int)", "int count(int)", "new()", "BAD -1", "STATE -2", "FULL -3",
        "NONE -4",
    };

    public static void main(String[] args) throws IllegalAccessException {
        TreeSet<String> due = new TreeSet<>(List.of(FACE));
        TreeSet<String> found = new TreeSet<>();
        Class<?> type = VoltNumbers.class;
        for (Method m : type.getDeclaredMethods()) {
            if (isSeen(m)) {
                found.add(m.getReturnType() + " " + m.getName() + kinds(m.getParameterTypes()));
            }
        }
        for (Constructor<?> c : type.getDeclaredConstructors()) {
            found.add("new" + kinds(c.getParameterTypes()));
        }
        for (Field f : type.getDeclaredFields()) {
            if (isSeen(f)) {
                found.add(f.getName() + " " + (Modifier.isStatic(f.getModifiers()) ? f.get(null) : ""));
            }
        }
        boolean well = found.equals(due) && Modifier.isFinal(type.getModifiers()) && noNameTwice(type);
        if (!found.equals(due)) {
            System.out.println("the face is " + found + "\ndue is " + due);
        }
        System.out.println("FaceTest: " + found.size() + " members, " + (well ? "as due" : "not as due"));
        if (!well) {
            System.exit(1);
        }
    }

    private static boolean isSeen(Member member) {
        return !Modifier.isPrivate(member.getModifiers()) && !member.isSynthetic();
    }

    private static String kinds(Class<?>[] parameters) {
        List<String> names = new ArrayList<>();
        for (Class<?> parameter : parameters) {
            names.add(parameter.getName());
        }
        return "(" + String.join(",", names) + ")";
    }

    /** No private method, here or in a class inside, bears the name of a public one. */
    private static boolean noNameTwice(Class<?> type) {
        TreeSet<String> open = new TreeSet<>();
        List<Method> hidden = new ArrayList<>();
        for (Method m : type.getDeclaredMethods()) {
            if (isSeen(m)) {
                open.add(m.getName());
            } else {
                hidden.add(m);
            }
        }
        for (Class<?> inside : type.getDeclaredClasses()) {
            hidden.addAll(List.of(inside.getDeclaredMethods()));
        }
        boolean well = true;
        for (Method m : hidden) {
            if (open.contains(m.getName())) {
                System.out.println(m + " bears the name of a public method");
                well = false;
            }
        }
        return well;
    }
}
