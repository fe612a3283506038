import java.lang.reflect.Constructor;
import java.lang.reflect.Field;
import java.lang.reflect.Method;
import java.lang.reflect.Modifier;
import java.util.Set;
import java.util.TreeSet;

/** The public face: what the document lists, and no more. */
public final class FaceTest {
    private static final String[] DUE = {
        "public static final int CachedSpeaker.NONE",
        "public CachedSpeaker()",
        "public boolean CachedSpeaker.put(int,long)",
        "public boolean CachedSpeaker.fill(int,int,int)",
        "public boolean CachedSpeaker.size(int)",
        "public int CachedSpeaker.load()",
        "public boolean CachedSpeaker.type(int)",
        "public void CachedSpeaker.erase()",
        "public int CachedSpeaker.tokens()",
        "public int CachedSpeaker.token(int)",
        "public int CachedSpeaker.spell(int,int)",
        "public int CachedSpeaker.begin() throws java.lang.IllegalStateException,java.lang.IllegalArgumentException",
        "public int CachedSpeaker.next() throws java.lang.IllegalStateException",
        "public int CachedSpeaker.go(int) throws java.lang.IllegalArgumentException,java.lang.IllegalStateException",
        "public int CachedSpeaker.output(int)",
        "public int CachedSpeaker.taken()",
        "public boolean CachedSpeaker.running()",
        "public int CachedSpeaker.sum(int)",
        "public int CachedSpeaker.kept(int,int,int,int)",
    };

    public static void main(String[] args) {
        Check check = new Check("FaceTest");
        check.part("members that are not private");
        Set<String> found = members();
        for (String due : DUE) {
            check.same(due, found.remove(due), true);
        }
        for (String more : found) {
            check.complain("not of the face: " + more);
        }
        check.part("the class");
        check.same("public and final", CachedSpeaker.class.getModifiers(), Modifier.PUBLIC | Modifier.FINAL);
        check.same("NONE", CachedSpeaker.NONE, -1000000000);
        check.part("classes inside");
        for (Class<?> inside : CachedSpeaker.class.getDeclaredClasses()) {
            int is = inside.getModifiers();
            check.same(inside.getName() + " is static and not for others",
                Modifier.isStatic(is) && !Modifier.isPublic(is) && !Modifier.isProtected(is), true);
            for (Field field : inside.getDeclaredFields()) {
                int how = field.getModifiers();
                check.same(field + " is final where it is static",
                    !Modifier.isStatic(how) || Modifier.isFinal(how), true);
            }
        }
        check.end();
    }

    private static Set<String> members() {
        Set<String> found = new TreeSet<>();
        for (Field field : CachedSpeaker.class.getDeclaredFields()) {
            note(found, field.getModifiers(), field.toString());
        }
        for (Constructor<?> constructor : CachedSpeaker.class.getDeclaredConstructors()) {
            note(found, constructor.getModifiers(), constructor.toString());
        }
        for (Method method : CachedSpeaker.class.getDeclaredMethods()) {
            note(found, method.getModifiers(), method.toString());
        }
        return found;
    }

    private static void note(Set<String> found, int modifiers, String words) {
        if (!Modifier.isPrivate(modifiers)) {
            found.add(words);
        }
    }
}
