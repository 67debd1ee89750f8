import java.lang.reflect.Constructor;
import java.lang.reflect.Field;
import java.lang.reflect.Method;
import java.lang.reflect.Modifier;
import java.util.Set;
import java.util.TreeSet;

/** The public face is the document's and no member beside it is visible outside the class. */
public final class FaceTest {
    private static final Set<String> DUE = Set.of(
        "public static final int HeadTail.BAD",
        "public static final int HeadTail.FULL",
        "public static final int HeadTail.NONE",
        "public HeadTail()",
        "public int HeadTail.add(int,int,int)",
        "public boolean HeadTail.remove(int)",
        "public boolean HeadTail.change(int,int,int,int)",
        "public int HeadTail.jobs()",
        "public int HeadTail.part(int,int)",
        "public int HeadTail.least()",
        "public int HeadTail.bestAt(int)",
        "public int HeadTail.begins(int)",
        "public int HeadTail.leastWith(int,int)",
        "public int HeadTail.leastFirst(int)",
        "public int HeadTail.interrupted()",
        "public int HeadTail.tailFor(int,int)",
        "public int HeadTail.releaseFor(int,int)");

    public static void main(String[] args) {
        Set<String> seen = new TreeSet<>();
        for (Field f : HeadTail.class.getDeclaredFields()) {
            if (!Modifier.isPrivate(f.getModifiers())) {
                seen.add(f.toString());
            }
        }
        for (Constructor<?> c : HeadTail.class.getDeclaredConstructors()) {
            seen.add(c.toString());
        }
        for (Method m : HeadTail.class.getDeclaredMethods()) {
            if (!Modifier.isPrivate(m.getModifiers())) {
                seen.add(m.toString());
            }
        }
        for (String member : DUE) {
            Check.due("has " + member, seen.contains(member), true);
        }
        for (String member : seen) {
            Check.due("may have " + member, DUE.contains(member), true);
        }
        classAlone();
        constants();
        Check.end();
    }

    /** Another class above it, or an interface, would bring members of its own. */
    private static void classAlone() {
        int modifiers = HeadTail.class.getModifiers();
        Check.due("public final", modifiers, Modifier.PUBLIC | Modifier.FINAL);
        Check.due("nested classes", HeadTail.class.getDeclaredClasses().length, 0);
        Check.due("no class above", HeadTail.class.getSuperclass() == Object.class, true);
        Check.due("interfaces", HeadTail.class.getInterfaces().length, 0);
        Check.due("type parameters", HeadTail.class.getTypeParameters().length, 0);
        Check.due("no package", HeadTail.class.getPackageName().isEmpty(), true);
    }

    private static void constants() {
        Check.due("BAD", HeadTail.BAD, -1);
        Check.due("FULL", HeadTail.FULL, -2);
        Check.due("NONE", HeadTail.NONE, -1);
    }
}
