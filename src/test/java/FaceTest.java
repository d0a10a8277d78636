import java.lang.reflect.Constructor;
import java.lang.reflect.Field;
import java.lang.reflect.Method;
import java.lang.reflect.Modifier;
import java.util.Set;
import java.util.TreeSet;

/** The public face is the document's, and everything else is private. */
public final class FaceTest {
    private static final Set<String> FACE = Set.of(
            "public ShadowPages()",
            "public int ShadowPages.write(int,int,int,int)",
            "public int ShadowPages.read(int,int,int)",
            "public int ShadowPages.fork(int,int)",
            "public int ShadowPages.pack(int,int,int,int)",
            "public int ShadowPages.unpack(int,int,int,boolean)",
            "public int ShadowPages.exchange(int,int,int)",
            "public int ShadowPages.clear(int,int)",
            "public int ShadowPages.size(int)",
            "public int ShadowPages.peek(int,int,int)",
            "public int ShadowPages.alike(int,int)");

    public static void main(String[] args) {
        Set<String> found = new TreeSet<>();
        for (Constructor<?> member : ShadowPages.class.getDeclaredConstructors()) {
            addIfVisible(found, member.getModifiers(), member.toString());
        }
        for (Method member : ShadowPages.class.getDeclaredMethods()) {
            addIfVisible(found, member.getModifiers(), member.toString());
        }
        for (Field member : ShadowPages.class.getDeclaredFields()) {
            addIfVisible(found, member.getModifiers(), member.toString());
        }
        for (String member : FACE) {
            Due.due("is there: " + member, found.contains(member) ? 1 : 0, 1);
        }
        for (String member : found) {
            Due.due("is in the document: " + member, FACE.contains(member) ? 1 : 0, 1);
        }
        int modifiers = ShadowPages.class.getModifiers();
        Due.due("public and final", modifiers & (Modifier.PUBLIC | Modifier.FINAL), Modifier.PUBLIC | Modifier.FINAL);
        Due.end();
    }

    private static void addIfVisible(Set<String> found, int modifiers, String member) {
        if (!Modifier.isPrivate(modifiers)) {
            found.add(member);
        }
    }
}
