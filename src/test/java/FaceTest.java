import java.lang.reflect.Constructor;
import java.lang.reflect.Field;
import java.lang.reflect.Method;
import java.lang.reflect.Modifier;
import java.util.Set;
import java.util.TreeSet;

/** The class has the document's public face and no other member that can be seen from outside. */
public final class FaceTest {
    private static final Set<String> FACE = new TreeSet<>(Set.of(
        "public static final int NormalForms.BAD",
        "public NormalForms()",
        "public boolean NormalForms.set(int,int,int)",
        "public boolean NormalForms.setRight(int,int)",
        "public void NormalForms.turn()",
        "public int NormalForms.rank()",
        "public int NormalForms.determinant()",
        "public int NormalForms.invariant(int)",
        "public boolean NormalForms.solvable()",
        "public int NormalForms.solvableBy(int)",
        "public int NormalForms.nullCount(int)",
        "public int NormalForms.imageCount(int)",
        "public int NormalForms.firstFailure()",
        "public int NormalForms.only(int)"));

    private FaceTest() {
    }

    public static void main(String[] args) {
        Due.begin();
        Set<String> seen = new TreeSet<>();
        Set<String> publicNames = new TreeSet<>();
        for (Field field : NormalForms.class.getDeclaredFields()) {
            note(seen, field.getModifiers(), field.toString());
        }
        for (Constructor<?> constructor : NormalForms.class.getDeclaredConstructors()) {
            note(seen, constructor.getModifiers(), constructor.toString());
        }
        for (Method method : NormalForms.class.getDeclaredMethods()) {
            note(seen, method.getModifiers(), method.toString());
            if (Modifier.isPublic(method.getModifiers())) {
                publicNames.add(method.getName());
            }
        }
        for (Method method : NormalForms.class.getDeclaredMethods()) {
            boolean hidden = Modifier.isPrivate(method.getModifiers()) && publicNames.contains(method.getName());
            Due.is("a private " + method.getName() + " bears a public name", hidden, false);
        }
        for (String member : FACE) {
            Due.is("has " + member, seen.contains(member), true);
        }
        for (String member : seen) {
            Due.is("the document has " + member, FACE.contains(member), true);
        }
        Due.is("public and final", NormalForms.class.getModifiers(), Modifier.PUBLIC | Modifier.FINAL);
        Due.is("nested classes", NormalForms.class.getDeclaredClasses().length, 0);
        Due.is("interfaces", NormalForms.class.getInterfaces().length, 0);
        Due.is("extends Object alone", NormalForms.class.getSuperclass() == Object.class, true);
        Due.is("BAD is -1000000", isBad(-1000000), true);
        Due.end();
    }

    /** A case label is taken by the compiler only if it is a constant, as the document has it. */
    private static boolean isBad(int value) {
        switch (value) {
            case NormalForms.BAD:
                return true;
            default:
                return false;
        }
    }

    private static void note(Set<String> seen, int modifiers, String member) {
        if (!Modifier.isPrivate(modifiers)) {
            seen.add(member);
        }
    }
}
