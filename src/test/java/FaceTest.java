import java.lang.reflect.Constructor;
import java.lang.reflect.Field;
import java.lang.reflect.Method;
import java.lang.reflect.Modifier;
import java.util.Set;
import java.util.TreeSet;

/** The public face of the document, and the rules of LANGUAGE.md that can be read off the compiled class. */
public final class FaceTest {
    private static final Set<String> FACE = Set.of(
        "public static final int BAD",
        "public static final int NONE",
        "public RollbackGame()",
        "public int arrive(int,int,int)",
        "public int tick()",
        "public int played()",
        "public int sure()",
        "public int position(int)",
        "public int strength(int)",
        "public int pause(int)",
        "public int shown(int)",
        "public int move(int,int)",
        "public int missing(int)",
        "public int winner(int)",
        "public int overAfter()",
        "public boolean settled()");

    public static void main(String[] args) {
        Check.due("BAD", RollbackGame.BAD, -1);
        Check.due("NONE", RollbackGame.NONE, -2);
        Class<?> type = RollbackGame.class;
        Check.due("public final class", type.getModifiers(), Modifier.PUBLIC | Modifier.FINAL);
        Check.due("nested classes", type.getDeclaredClasses().length, 0);
        membersAreTheDocuments(type);
        privateMethodsBearNamesOfTheirOwn(type);
        fieldsAreNumbersAndFlatArrays(type);
        Check.end();
    }

    private static void membersAreTheDocuments(Class<?> type) {
        Set<String> found = new TreeSet<>();
        for (Constructor<?> c : type.getDeclaredConstructors()) {
            addUnlessPrivate(found, c.getModifiers(), c.toString());
        }
        for (Method m : type.getDeclaredMethods()) {
            addUnlessPrivate(found, m.getModifiers(), m.toString());
        }
        for (Field f : type.getDeclaredFields()) {
            addUnlessPrivate(found, f.getModifiers(), f.toString());
        }
        for (String member : found) {
            Check.due("'" + member + "' is of the document", FACE.contains(member), true);
        }
        for (String member : FACE) {
            Check.due("'" + member + "' is in the class", found.contains(member), true);
        }
    }

    private static void addUnlessPrivate(Set<String> found, int modifiers, String member) {
        if (!Modifier.isPrivate(modifiers)) {
            found.add(member.replace("RollbackGame.", ""));
        }
    }

    private static void privateMethodsBearNamesOfTheirOwn(Class<?> type) {
        for (Method m : type.getDeclaredMethods()) {
            boolean taken = false;
            for (Method other : type.getMethods()) {
                taken |= other.getName().equals(m.getName());
            }
            if (Modifier.isPrivate(m.getModifiers())) {
                Check.due("private " + m.getName() + " bears a public name", taken, false);
            }
            Check.due(m.getName() + " has at most seven parameters", m.getParameterCount() <= 7, true);
        }
    }

    private static void fieldsAreNumbersAndFlatArrays(Class<?> type) {
        for (Field f : type.getDeclaredFields()) {
            Class<?> plain = f.getType().isArray() ? f.getType().getComponentType() : f.getType();
            boolean allowed = plain.isPrimitive() && plain != float.class && plain != double.class;
            Check.due(f.getName() + " is of an allowed type", allowed, true);
            if (Modifier.isStatic(f.getModifiers())) {
                boolean constant = Modifier.isFinal(f.getModifiers()) && (f.getType() == int.class || f.getType() == long.class);
                Check.due(f.getName() + " is a constant", constant, true);
            }
        }
    }
}
