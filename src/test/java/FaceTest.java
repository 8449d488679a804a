import java.lang.reflect.Constructor;
import java.lang.reflect.Field;
import java.lang.reflect.Method;
import java.lang.reflect.Modifier;
import java.util.Arrays;
import java.util.Set;
import java.util.TreeSet;

/** The public face of the document: its constants, constructor and methods, and nothing beside. */
public final class FaceTest {
    public static void main(String[] args) {
        Set<String> due = new TreeSet<>(Arrays.asList(
            "BAD_ARG", "FULL", "TOO_FEW", "NONE", "WordSolver()",
            "int simple(int)", "int then()", "int or()", "int many()", "int place(int)",
            "int size(int)", "int words(int, int)", "boolean same(int, int)",
            "boolean endless(int)", "int rests(int)", "int sign(int)", "int demand(int, int)",
            "int bound(int, int, int, int)", "int drop(int)", "int solutions()",
            "int length(int)", "int letter(int, int)", "int lengths(int)", "int different(int)",
            "int ofLength(int)"));
        Set<String> found = new TreeSet<>();
        int faults = 0;
        for (Field f : WordSolver.class.getDeclaredFields()) {
            if (!Modifier.isPrivate(f.getModifiers())) {
                found.add(f.getName());
                faults += f.getModifiers() == (Modifier.PUBLIC | Modifier.STATIC | Modifier.FINAL) ? 0 : 1;
            }
        }
        for (Constructor<?> c : WordSolver.class.getDeclaredConstructors()) {
            found.add("WordSolver" + types(c.getParameterTypes()));
            faults += c.getModifiers() == Modifier.PUBLIC ? 0 : 1;
        }
        for (Method m : WordSolver.class.getDeclaredMethods()) {
            if (!Modifier.isPrivate(m.getModifiers())) {
                found.add(m.getReturnType() + " " + m.getName() + types(m.getParameterTypes()));
                faults += m.getModifiers() == Modifier.PUBLIC ? 0 : 1;
            }
        }
        if (!found.equals(due)) {
            System.out.println("the face is " + found);
            faults++;
        }
        Due.eq("faults of the face", faults, 0);
        Due.eq("modifiers", WordSolver.class.getModifiers(), Modifier.PUBLIC | Modifier.FINAL);
        Due.eq("BAD_ARG", WordSolver.BAD_ARG, -1);
        Due.eq("FULL", WordSolver.FULL, -2);
        Due.eq("TOO_FEW", WordSolver.TOO_FEW, -3);
        Due.eq("NONE", WordSolver.NONE, -4);
        Due.end();
    }

    private static String types(Class<?>[] parameters) {
        return Arrays.toString(parameters).replace('[', '(').replace(']', ')');
    }
}
