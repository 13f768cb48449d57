import java.lang.reflect.Constructor;
import java.lang.reflect.Field;
import java.lang.reflect.Member;
import java.lang.reflect.Method;
import java.lang.reflect.Modifier;
import java.util.HashSet;
import java.util.List;
import java.util.Set;
import java.util.TreeSet;

/** The public face: the document's constants, constructor and methods, and nothing else that can be seen. */
public final class FaceTest {
    private static final List<String> METHODS = List.of(
        "int letters(long)", "int blank()", "int fault()", "int code()", "int signal(int,int,int,int)", "int as(int,int)",
        "int about(int,int)", "int thing(int)", "int weigh(int,int)", "int speech(int,int,int)", "int means(int)",
        "int clear(int,int)", "int starts(int,int)", "int twice(int)", "int mean(int,int)", "int oddness(int)",
        "int dealt(int,int)", "int shortest(int,int)", "int apart(int)", "int named(int)", "long right(int,int,int,int,int)",
        "int note(int)", "int forget()", "int which()", "int step(int,int)", "long seen(int,int)", "int change(int,int)",
        "int cheapest(int)", "long luck(int,int,int,int)", "int left(int,int)", "int stop(int)", "int image()",
        "int restore()", "int count(int)", "long digest()");

    public static void main(String[] args) {
        Class<?> face = MindReaders.class;
        Check.holds("the class is public and final", face.getModifiers() == (Modifier.PUBLIC | Modifier.FINAL));
        Check.holds("it stands alone", face.getSuperclass() == Object.class && face.getInterfaces().length == 0);
        constants(face);
        methods(face);
        inside(face);
        Check.end("FaceTest");
    }

    private static boolean isSeen(Member member) {
        return !Modifier.isPrivate(member.getModifiers()) && !member.isSynthetic();
    }

    private static void constants(Class<?> face) {
        Check.due("NONE", MindReaders.NONE, -1);
        Check.due("UNKNOWN", MindReaders.UNKNOWN, -101);
        Check.due("OUTSIDE", MindReaders.OUTSIDE, -102);
        Check.due("STATE", MindReaders.STATE, -103);
        Check.due("FULL", MindReaders.FULL, -104);
        Set<String> seen = new TreeSet<>();
        for (Field field : face.getDeclaredFields()) {
            boolean fixed = Modifier.isFinal(field.getModifiers());
            Check.holds("static fields are final: " + field, fixed || !Modifier.isStatic(field.getModifiers()));
            if (isSeen(field)) {
                seen.add(field.getName());
                int due = Modifier.PUBLIC | Modifier.STATIC | Modifier.FINAL;
                Check.holds("a constant: " + field, field.getModifiers() == due && field.getType() == int.class);
            }
        }
        Check.holds("the constants alone", seen.equals(Set.of("NONE", "UNKNOWN", "OUTSIDE", "STATE", "FULL")));
    }

    private static String told(Method method) {
        StringBuilder text = new StringBuilder();
        text.append(method.getReturnType()).append(' ').append(method.getName()).append('(');
        for (int i = 0; i < method.getParameterCount(); i++) {
            text.append(i == 0 ? "" : ",").append(method.getParameterTypes()[i]);
        }
        return text.append(')').toString();
    }

    private static void methods(Class<?> face) {
        Constructor<?>[] made = face.getDeclaredConstructors();
        Check.holds("one public constructor", made.length == 1 && made[0].getModifiers() == Modifier.PUBLIC
            && made[0].getParameterCount() == 0);
        Set<String> seen = new HashSet<>();
        Set<String> names = new HashSet<>();
        for (Method method : face.getDeclaredMethods()) {
            if (isSeen(method)) {
                seen.add(told(method));
                names.add(method.getName());
                Check.holds("public alone: " + method, method.getModifiers() == Modifier.PUBLIC);
            }
        }
        for (String due : METHODS) {
            Check.holds("has " + due, seen.contains(due));
        }
        Check.due("methods that are seen", seen.size(), METHODS.size());
        for (Method method : face.getDeclaredMethods()) {
            Check.holds("no private one of a public name: " + method, isSeen(method) || !names.contains(method.getName()));
        }
    }

    private static void inside(Class<?> face) {
        Check.holds("some twelve classes", face.getDeclaredClasses().length <= 12);
        for (Class<?> inner : face.getDeclaredClasses()) {
            int modifiers = inner.getModifiers();
            boolean hidden = !Modifier.isPublic(modifiers) && !Modifier.isProtected(modifiers);
            Check.holds("static and not seen: " + inner, Modifier.isStatic(modifiers) && hidden);
            Check.holds("no class in a class inside: " + inner, inner.getDeclaredClasses().length == 0);
        }
    }
}
