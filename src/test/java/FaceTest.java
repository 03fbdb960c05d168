import java.lang.reflect.Constructor;
import java.lang.reflect.Field;
import java.lang.reflect.Method;
import java.lang.reflect.Modifier;
import java.util.Arrays;
import java.util.TreeSet;

/** The public face is the document's, and nothing else can be seen from outside. */
public final class FaceTest {
    private static final String[] FACE = {
        "public boolean SliceBlocks.fix(int,long,long) throws java.lang.IndexOutOfBoundsException,java.lang.IllegalArgumentException",
        "public boolean SliceBlocks.outline(long,long) throws java.lang.IllegalArgumentException",
        "public boolean SliceBlocks.overlap()",
        "public boolean SliceBlocks.turned(int) throws java.lang.IndexOutOfBoundsException",
        "public int SliceBlocks.block(long,long,boolean) throws java.lang.IllegalStateException,java.lang.IllegalArgumentException",
        "public int SliceBlocks.net(int,int) throws java.lang.IndexOutOfBoundsException,java.lang.IllegalStateException,java.lang.IllegalArgumentException",
        "public int SliceBlocks.pair(int) throws java.lang.IllegalArgumentException",
        "public int SliceBlocks.pin(int,int,int) throws java.lang.IndexOutOfBoundsException",
        "public int SliceBlocks.shapes(int) throws java.lang.IndexOutOfBoundsException",
        "public int SliceBlocks.slice(int,int,boolean) throws java.lang.IndexOutOfBoundsException,java.lang.IllegalStateException,java.lang.IllegalArgumentException",
        "public long SliceBlocks.at(int,int) throws java.lang.IndexOutOfBoundsException",
        "public long SliceBlocks.least(int) throws java.lang.IndexOutOfBoundsException",
        "public long SliceBlocks.shape(int,int,int) throws java.lang.IndexOutOfBoundsException",
        "public long SliceBlocks.wire()",
        "public SliceBlocks(long)",
        "public static final int SliceBlocks.NONE",
    };

    public static void main(String[] args) {
        Checks checks = new Checks("FaceTest");
        TreeSet<String> seen = new TreeSet<>();
        TreeSet<String> names = new TreeSet<>();
        for (Method method : SliceBlocks.class.getDeclaredMethods()) {
            if (!Modifier.isPrivate(method.getModifiers())) {
                seen.add(method.toString());
                names.add(method.getName());
            }
        }
        for (Constructor<?> constructor : SliceBlocks.class.getDeclaredConstructors()) {
            if (!Modifier.isPrivate(constructor.getModifiers())) {
                seen.add(constructor.toString());
            }
        }
        for (Field field : SliceBlocks.class.getDeclaredFields()) {
            if (!Modifier.isPrivate(field.getModifiers())) {
                seen.add(field.toString());
            }
        }
        checks.due("the face", new TreeSet<>(Arrays.asList(FACE)), () -> seen);
        checks.due("NONE", -1, () -> SliceBlocks.NONE);
        checks.due("public and final", true, () -> Modifier.isFinal(SliceBlocks.class.getModifiers())
            && Modifier.isPublic(SliceBlocks.class.getModifiers()));
        checkInside(checks, names);
        checks.end();
    }

    private static void checkInside(Checks checks, TreeSet<String> names) {
        checkNames(checks, SliceBlocks.class, names);
        for (Class<?> inside : SliceBlocks.class.getDeclaredClasses()) {
            int modifiers = inside.getModifiers();
            checks.due(inside + " is static and not public", true, () -> Modifier.isStatic(modifiers)
                && !Modifier.isPublic(modifiers) && !Modifier.isProtected(modifiers));
            checkNames(checks, inside, names);
        }
    }

    private static void checkNames(Checks checks, Class<?> type, TreeSet<String> names) {
        for (Method method : type.getDeclaredMethods()) {
            if (!Modifier.isPublic(method.getModifiers())) {
                checks.due(method + " bears a name of the face", false, () -> names.contains(method.getName()));
            }
        }
    }
}
