import java.lang.reflect.Constructor;
import java.lang.reflect.Field;
import java.lang.reflect.Method;
import java.lang.reflect.Modifier;
import java.util.ArrayList;
import java.util.Arrays;
import java.util.Collections;
import java.util.List;

/** The class has the document's public face, and nothing else that is not private. */
public final class FaceTest {
    private static final String[] DUE = {
        "public ChannelRouter()",
        "public boolean ChannelRouter.via(int,int) throws java.lang.IndexOutOfBoundsException",
        "public float ChannelRouter.used()",
        "public int ChannelRouter.count(int) throws java.lang.IndexOutOfBoundsException",
        "public int ChannelRouter.density()",
        "public int ChannelRouter.lay(boolean) throws java.lang.IllegalArgumentException,java.lang.IllegalStateException",
        "public int ChannelRouter.layAny() throws java.lang.IllegalArgumentException,java.lang.IllegalStateException",
        "public int ChannelRouter.level(int,int) throws java.lang.IndexOutOfBoundsException",
        "public int ChannelRouter.net(int,int) throws java.lang.IndexOutOfBoundsException",
        "public int ChannelRouter.pairs(boolean)",
        "public int ChannelRouter.pin(int,boolean,int) throws java.lang.IndexOutOfBoundsException,java.lang.IllegalArgumentException",
        "public int ChannelRouter.ring(int)",
        "public int ChannelRouter.segment(int,int) throws java.lang.IndexOutOfBoundsException",
        "public int ChannelRouter.upright(int,int) throws java.lang.IndexOutOfBoundsException",
        "public static final int ChannelRouter.NONE",
    };

    public static void main(String[] args) {
        List<String> due = new ArrayList<>(Arrays.asList(DUE));
        List<String> got = face();
        Collections.sort(due);
        Collections.sort(got);
        boolean right = due.equals(got);
        if (!right) {
            System.out.println("the face is " + got + ", due is " + due);
        }
        if (ChannelRouter.class.getModifiers() != (Modifier.PUBLIC | Modifier.FINAL)) {
            right = false;
            System.out.println("the class is not public and final alone");
        }
        if (!namesAreApart()) {
            right = false;
        }
        if (!right) {
            System.exit(1);
        }
    }

    private static List<String> face() {
        List<String> found = new ArrayList<>();
        for (Constructor<?> c : ChannelRouter.class.getDeclaredConstructors()) {
            addIfOpen(found, c.getModifiers(), c.toString());
        }
        for (Method m : ChannelRouter.class.getDeclaredMethods()) {
            addIfOpen(found, m.getModifiers(), m.toString());
        }
        for (Field f : ChannelRouter.class.getDeclaredFields()) {
            addIfOpen(found, f.getModifiers(), f.toString());
        }
        return found;
    }

    private static void addIfOpen(List<String> found, int modifiers, String member) {
        if (!Modifier.isPrivate(modifiers)) {
            found.add(member);
        }
    }

    // Rule 1 of LANGUAGE.md: no private method bears the name of a public one.
    private static boolean namesAreApart() {
        List<Class<?>> all = new ArrayList<>(Arrays.asList(ChannelRouter.class.getDeclaredClasses()));
        all.add(ChannelRouter.class);
        boolean apart = true;
        for (Class<?> c : all) {
            for (Method m : c.getDeclaredMethods()) {
                if (Modifier.isPrivate(m.getModifiers()) && isPublicName(m.getName())) {
                    apart = false;
                    System.out.println("private method with a public name: " + m);
                }
            }
        }
        return apart;
    }

    private static boolean isPublicName(String name) {
        for (Method m : ChannelRouter.class.getMethods()) {
            if (m.getDeclaringClass() == ChannelRouter.class && m.getName().equals(name)) {
                return true;
            }
        }
        return false;
    }
}
