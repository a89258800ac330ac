import java.lang.reflect.Constructor;
import java.lang.reflect.Field;
import java.lang.reflect.Method;
import java.lang.reflect.Modifier;
import java.util.Set;
import java.util.TreeSet;

/** The face of the class is the document's, and nothing else of it can be seen from outside. */
public final class FaceTests {
    private static final Set<String> FACE = Set.of(
            "public static final int BinnedReads.NONE",
            "public BinnedReads()",
            "public boolean BinnedReads.op(int,int)",
            "public boolean BinnedReads.base(int)",
            "public void BinnedReads.scrap()",
            "public int BinnedReads.add(int,int)",
            "public int BinnedReads.finish()",
            "public void BinnedReads.clear()",
            "public boolean BinnedReads.turn(int,int)",
            "public int BinnedReads.byteAt(int)",
            "public int BinnedReads.check()",
            "public int BinnedReads.query(int,int,int)",
            "public int BinnedReads.looked()",
            "public int BinnedReads.found(int,int)",
            "public int BinnedReads.foundOp(int,int)",
            "public int BinnedReads.foundBase(int,int)");

    private static int wrong = 0;

    public static void main(String[] args) {
        Set<String> seen = new TreeSet<>();
        for (Field field : BinnedReads.class.getDeclaredFields()) {
            keepVisible(seen, field.getModifiers(), field.toString());
            holds("a static field is final: " + field, !Modifier.isStatic(field.getModifiers())
                    || Modifier.isFinal(field.getModifiers()));
        }
        for (Constructor<?> constructor : BinnedReads.class.getDeclaredConstructors()) {
            keepVisible(seen, constructor.getModifiers(), constructor.toString());
        }
        for (Method method : BinnedReads.class.getDeclaredMethods()) {
            keepVisible(seen, method.getModifiers(), method.toString());
        }
        for (String member : FACE) {
            holds("there is " + member, seen.contains(member));
        }
        for (String member : seen) {
            holds("the document has " + member, FACE.contains(member));
        }
        holds("the class is final", Modifier.isFinal(BinnedReads.class.getModifiers()));
        holds("the class is public", Modifier.isPublic(BinnedReads.class.getModifiers()));
        holds("NONE is -1", BinnedReads.NONE == -1);
        for (Class<?> inside : BinnedReads.class.getDeclaredClasses()) {
            holds(inside + " is static", Modifier.isStatic(inside.getModifiers()));
            holds(inside + " is not public", !Modifier.isPublic(inside.getModifiers()));
        }
        System.out.println(wrong == 0 ? "the face is the document's" : wrong + " faults of the face");
        if (wrong != 0) {
            System.exit(1);
        }
    }

    private static void keepVisible(Set<String> seen, int modifiers, String member) {
        if (!Modifier.isPrivate(modifiers)) {
            seen.add(member);
        }
    }

    private static void holds(String what, boolean holds) {
        if (!holds) {
            wrong++;
            System.out.println("does not hold: " + what);
        }
    }
}
