import java.lang.reflect.Constructor;
import java.lang.reflect.Field;
import java.lang.reflect.Member;
import java.lang.reflect.Method;
import java.lang.reflect.Modifier;
import java.util.ArrayList;
import java.util.Arrays;
import java.util.List;
import java.util.TreeSet;

/** The public face is the document's, and nothing else of the class can be seen from outside. */
public final class FaceTest {
    private static final List<String> FACE = Arrays.asList(
        "public static final int BAD = -1",
        "public static final int FULL = -2",
        "public static final int NONE = -1",
        "public FlowTimeDesk(int)",
        "public int add(int,int,int)",
        "public boolean remove(int)",
        "public boolean setTime(int,int,int)",
        "public int jobs()",
        "public int time(int,int)",
        "public int least()",
        "public int machineOf(int)",
        "public int finishOf(int)",
        "public int leastWith(int,int)",
        "public int leastWithout(int)",
        "public int leastDoubled(int)",
        "public int leastIdle(int)",
        "public int mostJobs(int)");

    public static void main(String[] args) throws IllegalAccessException {
        Checks checks = new Checks();
        Class<?> desk = FlowTimeDesk.class;
        TreeSet<String> found = seenFromOutside(desk);
        for (String member : FACE) {
            checks.due("face has " + member, true, found.remove(member));
        }
        for (String member : found) {
            checks.due("face has besides " + member, false, true);
        }
        checks.due("modifiers of the class", Modifier.PUBLIC | Modifier.FINAL, desk.getModifiers());
        checks.due("nested classes", 0, desk.getDeclaredClasses().length);
        checks.due("interfaces", 0, desk.getInterfaces().length);
        checks.due("superclass is Object", true, desk.getSuperclass() == Object.class);
        checks.close("FaceTest");
    }

    private static TreeSet<String> seenFromOutside(Class<?> desk) throws IllegalAccessException {
        List<Member> members = new ArrayList<>();
        members.addAll(Arrays.asList(desk.getDeclaredFields()));
        members.addAll(Arrays.asList(desk.getDeclaredConstructors()));
        members.addAll(Arrays.asList(desk.getDeclaredMethods()));
        TreeSet<String> found = new TreeSet<>();
        for (Member member : members) {
            if (!Modifier.isPrivate(member.getModifiers())) {
                found.add(written(member));
            }
        }
        return found;
    }

    private static String written(Member member) throws IllegalAccessException {
        if (member instanceof Field field) {
            String name = field.toGenericString().replace("FlowTimeDesk.", "");
            return Modifier.isStatic(field.getModifiers()) ? name + " = " + field.get(null) : name;
        }
        if (member instanceof Constructor<?> constructor) {
            return constructor.toGenericString();
        }
        return ((Method) member).toGenericString().replace("FlowTimeDesk.", "");
    }
}
