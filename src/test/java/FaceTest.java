import java.lang.reflect.Constructor;
import java.lang.reflect.Field;
import java.lang.reflect.Method;
import java.lang.reflect.Modifier;
import java.util.ArrayList;
import java.util.Arrays;
import java.util.List;
import java.util.Set;
import java.util.TreeSet;

/** The public face is the document's, and nothing else can be seen from outside. */
public final class FaceTest {
    private static final String[] METHODS = {
        "int chapels(int)", "int road(int,int,int)", "int yearOf(int)", "int knight(int,int,int,int,int)",
        "int heir(int,int)", "int say(int)", "int wipe()", "int fault()", "int judge(int)", "int done()",
        "int state(int,int)", "int behind(int,int)", "int debt(int,int)", "int when(int,int)", "int inTime(int)",
        "int round(int,int)", "int hard(int,int,int,int,int)", "int settled()", "int ring()",
        "int reckoned(int,int,int)", "long kept(int,int,int,int)", "int keeps(int,int,int)", "int seen(int,int)",
        "int forget()", "int who(int)", "long snow(int,int,int,int)", "int year(int,int,int)", "int image(int)",
        "int restore(int)", "int told(int)"
    };
    private static final String[] CONSTANTS = {"NONE", "UNKNOWN", "OUTSIDE", "STATE", "FULL", "NO", "LOST"};

    public static void main(String[] args) {
        Check check = new Check();
        Class<?> face = BlowOwed.class;
        check.isTrue("public and final", Modifier.isPublic(face.getModifiers()) && Modifier.isFinal(face.getModifiers()));
        checkMethods(check, face);
        checkConstants(check, face);
        Constructor<?>[] constructors = face.getDeclaredConstructors();
        check.isTrue("one public constructor without arguments", constructors.length == 1
            && Modifier.isPublic(constructors[0].getModifiers()) && constructors[0].getParameterCount() == 0);
        checkClasses(check, face);
        check.end();
    }

    private static void checkMethods(Check check, Class<?> face) {
        Set<String> visible = new TreeSet<>();
        Set<String> publicNames = new TreeSet<>();
        List<String> privateNames = new ArrayList<>();
        for (Method method : face.getDeclaredMethods()) {
            if (Modifier.isPrivate(method.getModifiers())) {
                privateNames.add(method.getName());
            } else {
                visible.add(tell(method));
                publicNames.add(method.getName());
                check.isTrue("public and no static: " + method, Modifier.isPublic(method.getModifiers())
                    && !Modifier.isStatic(method.getModifiers()));
            }
        }
        check.isTrue("methods " + visible, visible.equals(new TreeSet<>(Arrays.asList(METHODS))));
        for (Class<?> inside : face.getDeclaredClasses()) {
            for (Method method : inside.getDeclaredMethods()) {
                privateNames.add(method.getName());
            }
        }
        for (String name : privateNames) {
            check.isTrue("no private method has a public one's name: " + name, !publicNames.contains(name));
        }
    }

    private static String tell(Method method) {
        StringBuilder text = new StringBuilder(method.getReturnType().getName()).append(' ').append(method.getName());
        char mark = '(';
        for (Class<?> type : method.getParameterTypes()) {
            text.append(mark).append(type.getName());
            mark = ',';
        }
        return text.append(mark == '(' ? "()" : ")").toString();
    }

    private static void checkConstants(Check check, Class<?> face) {
        Set<String> visible = new TreeSet<>();
        for (Field field : face.getDeclaredFields()) {
            if (!Modifier.isPrivate(field.getModifiers())) {
                visible.add(field.getName());
            }
            check.isTrue("static fields are final: " + field, !Modifier.isStatic(field.getModifiers())
                || Modifier.isFinal(field.getModifiers()));
        }
        check.isTrue("constants " + visible, visible.equals(new TreeSet<>(Arrays.asList(CONSTANTS))));
        check.due("NONE", BlowOwed.NONE, -6);
        check.due("UNKNOWN", BlowOwed.UNKNOWN, -1);
        check.due("OUTSIDE", BlowOwed.OUTSIDE, -2);
        check.due("STATE", BlowOwed.STATE, -3);
        check.due("FULL", BlowOwed.FULL, -4);
        check.due("NO", BlowOwed.NO, -5);
        check.due("LOST", BlowOwed.LOST, -1000000000000000000L);
    }

    private static void checkClasses(Check check, Class<?> face) {
        Class<?>[] inside = face.getDeclaredClasses();
        check.isTrue("some twelve classes at most: " + (inside.length + 1), inside.length + 1 <= 12);
        for (Class<?> one : inside) {
            check.isTrue("private and static: " + one, Modifier.isPrivate(one.getModifiers())
                && Modifier.isStatic(one.getModifiers()));
            check.isTrue("some twenty fields at most: " + one, one.getDeclaredFields().length <= 20);
        }
    }
}
