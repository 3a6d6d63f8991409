import java.lang.reflect.Constructor;
import java.lang.reflect.Field;
import java.lang.reflect.Method;
import java.lang.reflect.Modifier;
import java.util.Arrays;
import java.util.Set;
import java.util.TreeSet;

/** The public face is the document's and nothing else; what is inside is private. */
public final class FaceTest {
    private static final String[] METHODS = {
        "int feed 5", "int back 1", "int read 0", "int place 0", "boolean set 2", "int setting 1", "int one 3",
        "boolean begin 3", "void order 1", "int lot 5", "int state 4", "int at 3", "int figure 4", "int wishes 3",
        "int changed 4", "int first 5", "int cause 2", "int clear 0", "long share 5", "int seen 5", "int span 4",
        "int meets 1", "int met 3", "int untold 1", "int would 7", "int tells 3", "int fewest 2", "int count 1",
    };

    public static void main(String[] args) {
        Due due = new Due();
        due.is("NONE", MadeTown.NONE, -1);
        due.is("public final", MadeTown.class.getModifiers(), Modifier.PUBLIC | Modifier.FINAL);
        Set<String> found = new TreeSet<>();
        Set<String> publicNames = new TreeSet<>();
        for (Method m : MadeTown.class.getDeclaredMethods()) {
            if (Modifier.isPublic(m.getModifiers())) {
                found.add(m.getReturnType() + " " + m.getName() + " " + m.getParameterCount());
                publicNames.add(m.getName());
                due.is(m.getName() + " is static", Modifier.isStatic(m.getModifiers()), false);
            }
        }
        due.is("public methods " + found, found.equals(new TreeSet<>(Arrays.asList(METHODS))), true);
        for (Method m : MadeTown.class.getDeclaredMethods()) {
            if (!Modifier.isPublic(m.getModifiers())) {
                due.is(m.getName() + " is private", Modifier.isPrivate(m.getModifiers()), true);
                due.is(m.getName() + " bears a public name", publicNames.contains(m.getName()), false);
            }
        }
        for (Field f : MadeTown.class.getDeclaredFields()) {
            boolean isNone = f.getName().equals("NONE");
            int kept = f.getModifiers() & (Modifier.PUBLIC | Modifier.PROTECTED | Modifier.PRIVATE);
            due.is(f.getName() + " modifiers", kept, isNone ? Modifier.PUBLIC : Modifier.PRIVATE);
            boolean isStatic = Modifier.isStatic(f.getModifiers());
            due.is(f.getName() + " static is final", !isStatic || Modifier.isFinal(f.getModifiers()), true);
        }
        due.is("constructors", MadeTown.class.getDeclaredConstructors().length, 1);
        for (Constructor<?> c : MadeTown.class.getDeclaredConstructors()) {
            due.is("constructor's modifiers", c.getModifiers(), Modifier.PUBLIC);
        }
        for (Class<?> inside : MadeTown.class.getDeclaredClasses()) {
            due.is(inside + " is static", Modifier.isStatic(inside.getModifiers()), true);
            due.is(inside + " is public", Modifier.isPublic(inside.getModifiers()), false);
            for (Method m : inside.getDeclaredMethods()) {
                due.is(inside + "." + m.getName() + " bears a public name", publicNames.contains(m.getName()), false);
            }
        }
        due.is("classes", MadeTown.class.getDeclaredClasses().length <= 12, true);
        due.end();
    }
}
