import java.lang.reflect.Constructor;
import java.lang.reflect.Field;
import java.lang.reflect.Method;
import java.lang.reflect.Modifier;
import java.util.Arrays;
import java.util.TreeSet;

/** The public face is the document's and no more; no private method bears a public name. */
public final class FaceTest {
    private static final String[] FACE = {
        "int sign(int)", "boolean end(int)", "int tower()", "int rule()", "int players()", "int block(int,int)", "int layer(int,int)",
        "int plane(int,int)", "int sheet(int,int,int,int)", "boolean table(int,int)", "int swell(int,int)", "int bump(int)", "int stands()",
        "int loose()", "int weakest()", "int lean(int)", "int moves()", "int odds(int,int)", "int best()", "int leave()", "int where(int)",
        "int move(int)", "int play()", "int undo()", "int why()", "int wins()", "int longest()", "int shortest()", "int high()",
        "int towers()", "int free(int)", "int chance(int)", "int loser(int)", "int felt(int,int)", "boolean known(int,int,int)",
        "int forget()", "int fits(int)", "int span(int)", "int sure(int)", "int touch(int)", "boolean keep(int)", "boolean again(int)",
        "int count(int)", "long row(int)"};

    public static void main(String[] args) {
        Check check = new Check();
        TreeSet<String> found = new TreeSet<>();
        TreeSet<String> publicNames = new TreeSet<>();
        Class<?> face = FelledHasLost.class;
        for (Method m : face.getDeclaredMethods()) {
            if (!Modifier.isPrivate(m.getModifiers()) && !m.isSynthetic()) {
                found.add(described(m));
                publicNames.add(m.getName());
                check.due(m.getName() + " is public, not static", m.getModifiers() & (Modifier.PUBLIC | Modifier.STATIC), Modifier.PUBLIC);
            }
        }
        check.due("the methods", found.toString(), new TreeSet<>(Arrays.asList(FACE)).toString());
        hiddenNames(check, face, publicNames);
        for (Class<?> inside : face.getDeclaredClasses()) {
            check.due(inside + " is static", Modifier.isStatic(inside.getModifiers()), true);
            hiddenNames(check, inside, publicNames);
        }
        check.due("at most some twelve classes", face.getDeclaredClasses().length + 1 <= 12, true);
        check.due("the class is final and public", face.getModifiers(), Modifier.PUBLIC | Modifier.FINAL);
        Constructor<?>[] made = face.getDeclaredConstructors();
        check.due("one constructor", made.length, 1);
        check.due("without arguments", made[0].getParameterCount(), 0);
        for (Field f : face.getDeclaredFields()) {
            check.due(f.getName() + " is private, or NONE", Modifier.isPrivate(f.getModifiers()) || f.getName().equals("NONE"), true);
            check.due(f.getName() + " is final if static", !Modifier.isStatic(f.getModifiers()) || Modifier.isFinal(f.getModifiers()), true);
        }
        check.due("NONE", FelledHasLost.NONE, -1);
        check.finish();
    }

    private static String described(Method m) {
        StringBuilder s = new StringBuilder(m.getReturnType() + " " + m.getName() + "(");
        for (Class<?> p : m.getParameterTypes()) {
            s.append(s.charAt(s.length() - 1) == '(' ? "" : ",").append(p);
        }
        return s.append(')').toString();
    }

    private static void hiddenNames(Check check, Class<?> in, TreeSet<String> publicNames) {
        for (Method m : in.getDeclaredMethods()) {
            boolean hidden = in != FelledHasLost.class || Modifier.isPrivate(m.getModifiers());
            check.due(in.getSimpleName() + "." + m.getName() + " bears a public name", hidden && publicNames.contains(m.getName()), false);
        }
    }
}
