import java.lang.reflect.Constructor;
import java.lang.reflect.Field;
import java.lang.reflect.Method;
import java.lang.reflect.Modifier;
import java.util.Arrays;
import java.util.List;
import java.util.TreeSet;

/** The face of the class is the document's, and what stands inside keeps to LANGUAGE.md. */
public final class FaceTest {
    private static final List<String> FACE = List.of(
            "public UnsoldPrice()",
            "public int UnsoldPrice.feed(int,int,int,int,int)",
            "public boolean UnsoldPrice.end(int)",
            "public int UnsoldPrice.fault(int)",
            "public int UnsoldPrice.text(int)",
            "public int UnsoldPrice.seller(int,int) throws java.util.NoSuchElementException",
            "public int UnsoldPrice.buyers(int,int)",
            "public boolean UnsoldPrice.rule(int,int)",
            "public boolean UnsoldPrice.hold(int,boolean)",
            "public boolean UnsoldPrice.risk(int)",
            "public boolean UnsoldPrice.seed(long)",
            "public int UnsoldPrice.days(int)",
            "public int UnsoldPrice.ahead(int)",
            "public int UnsoldPrice.falls(int,int)",
            "public int UnsoldPrice.ring(int)",
            "public int UnsoldPrice.best(int,int,int)",
            "public int UnsoldPrice.rest(int)",
            "public int UnsoldPrice.fool(int,int,int)",
            "public int UnsoldPrice.up(int,int)",
            "public int UnsoldPrice.when(int,int)",
            "public int UnsoldPrice.stranger(int,int,int)",
            "public int UnsoldPrice.see(int,int)",
            "public int UnsoldPrice.fits(int)",
            "public int UnsoldPrice.other(int,int,int)",
            "public int UnsoldPrice.ask(int,int,int)",
            "public int UnsoldPrice.month(int,int)",
            "public int UnsoldPrice.inTurn(int,int)",
            "public int UnsoldPrice.bribe(int,int)",
            "public int UnsoldPrice.spread(int,int)",
            "public int UnsoldPrice.served(int,int,int)",
            "public int UnsoldPrice.odds(int,int)",
            "public int UnsoldPrice.lone(int,int)",
            "public int UnsoldPrice.glut(int,int)",
            "public int UnsoldPrice.image()",
            "public int UnsoldPrice.back()",
            "public int UnsoldPrice.count(int)",
            "public static final int UnsoldPrice.NONE",
            "public static final int UnsoldPrice.HIDDEN");

    private FaceTest() {
    }

    public static void main(String[] args) {
        Class<?> face = UnsoldPrice.class;
        TreeSet<String> has = new TreeSet<>();
        TreeSet<String> names = new TreeSet<>();
        for (Constructor<?> c : face.getDeclaredConstructors()) {
            look(c.toGenericString(), c.getModifiers(), has);
        }
        for (Method m : face.getDeclaredMethods()) {
            look(m.toGenericString(), m.getModifiers(), has);
            if (Modifier.isPublic(m.getModifiers())) {
                names.add(m.getName());
            }
        }
        for (Field f : face.getDeclaredFields()) {
            look(f.toGenericString(), f.getModifiers(), has);
        }
        List<String> want = FACE;
        for (String line : want) {
            Check.due("the face has: " + line, has.contains(line), true);
        }
        Check.due("members of the face", has.size(), want.size());
        Check.due("final", Modifier.isFinal(face.getModifiers()), true);
        Check.due("NONE", UnsoldPrice.NONE, -1);
        Check.due("HIDDEN", UnsoldPrice.HIDDEN, -1000000);
        inside(face, names);
        for (Class<?> c : face.getDeclaredClasses()) {
            Check.due(c + " is static", Modifier.isStatic(c.getModifiers()), true);
            Check.due(c + " is not public", Modifier.isPublic(c.getModifiers()), false);
            inside(c, names);
        }
        Check.due("classes", face.getDeclaredClasses().length + 1 <= 12, true);
        Check.finish();
    }

    /** A member that is not private belongs to the face. */
    private static void look(String line, int modifiers, TreeSet<String> has) {
        if (!Modifier.isPrivate(modifiers)) {
            has.add(line);
        }
    }

    private static void inside(Class<?> c, TreeSet<String> names) {
        int fields = 0;
        for (Field f : c.getDeclaredFields()) {
            if (Modifier.isStatic(f.getModifiers())) {
                Check.due(f + " is final", Modifier.isFinal(f.getModifiers()), true);
                Check.due(f + " is a constant", Arrays.asList("int", "long", "boolean", "char",
                        "String", "int[]", "long[]", "char[]", "byte[]")
                        .contains(f.getType().getSimpleName()), true);
            } else {
                fields++;
            }
        }
        Check.due(c + ": fields", fields <= 20, true);
        for (Method m : c.getDeclaredMethods()) {
            Check.due(m + ": parameters", m.getParameterCount() <= 7, true);
            if (Modifier.isPrivate(m.getModifiers()) || c != UnsoldPrice.class) {
                Check.due(m + " has no name of the face", names.contains(m.getName()), false);
            }
            Check.due(m + " is no method of all objects",
                    List.of("equals", "hashCode", "toString").contains(m.getName()), false);
        }
    }
}
