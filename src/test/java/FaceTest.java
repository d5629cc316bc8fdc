import java.lang.reflect.Constructor;
import java.lang.reflect.Field;
import java.lang.reflect.Method;
import java.lang.reflect.Modifier;
import java.util.Arrays;
import java.util.HashSet;
import java.util.Set;
import java.util.TreeSet;

/** The public face (and promise 1): just what the document names, a new object being a river without people. */
final class FaceTest {
    private static final String[] FACE = {
        "int feed(long,long,long)", "int river()", "int person(int,int)", "boolean use(int)", "int rings()",
        "int ring(int,int)", "int waits(int,int)", "int all(int)", "int bank(int,int,int)", "int send(int,int)",
        "int turn(int,int)", "int asks(int)", "int choice(int)", "int chosen(int)", "int rests()", "int rest(int)",
        "int tell(int)", "boolean clear()", "int judged(int)", "long likely(int,int)", "long mean(int,int)",
        "long came(int)", "int lots(int,int,int)", "int best()", "boolean mark(int,boolean)", "int count(int)"};

    public static void main(String[] args) {
        Set<String> found = new TreeSet<>();
        Set<String> publicNames = new HashSet<>();
        for (Method method : EvenFerry.class.getDeclaredMethods()) {
            if (!Modifier.isPrivate(method.getModifiers())) {
                found.add(told(method));
                publicNames.add(method.getName());
            }
        }
        Check.due("the public methods " + found, found.equals(new TreeSet<>(Arrays.asList(FACE))), true);
        for (Method method : EvenFerry.class.getDeclaredMethods()) {
            if (Modifier.isPrivate(method.getModifiers())) {
                Check.due("a private " + method.getName(), publicNames.contains(method.getName()), false);
            }
        }
        for (Class<?> inside : EvenFerry.class.getDeclaredClasses()) {
            Check.due(inside + " is static", Modifier.isStatic(inside.getModifiers()), true);
            for (Method method : inside.getDeclaredMethods()) {
                Check.due(inside + " " + method.getName(), publicNames.contains(method.getName()), false);
            }
        }
        for (Field field : EvenFerry.class.getDeclaredFields()) {
            boolean none = field.getName().equals("NONE");
            Check.due(field + " is private", Modifier.isPrivate(field.getModifiers()), !none);
        }
        Constructor<?>[] constructors = EvenFerry.class.getConstructors();
        Check.due("constructors", constructors.length, 1);
        Check.due("final", Modifier.isFinal(EvenFerry.class.getModifiers()), true);
        Check.due("NONE", EvenFerry.NONE, -1);
        newObject(new EvenFerry());
        Check.end();
    }

    private static String told(Method method) {
        StringBuilder text = new StringBuilder(method.getReturnType() + " " + method.getName() + "(");
        for (Class<?> type : method.getParameterTypes()) {
            text.append(text.charAt(text.length() - 1) == '(' ? "" : ",").append(type);
        }
        return text.append(")").toString();
    }

    private static void newObject(EvenFerry x) {
        int[] counts = {0, 0, -1, 40, 10, 1, 0, 0, 0, -1};
        for (int what = 0; what < counts.length; what++) {
            Check.due("count(" + what + ")", x.count(what), counts[what]);
        }
        Check.due("rings()", x.rings(), 0);
        Check.due("person(0, 0)", x.person(0, 0), -1);
        Check.due("all(0)", x.all(0), 0);
        Check.due("all(1)", x.all(1), 0);
        Check.due("all(2)", x.all(2), 0);
        Check.due("judged(0)", x.judged(0), -1);
        Check.due("likely(2, 0), side 1 of 2", x.likely(2, 0), 1);
        Check.due("likely(2, 1), side 1 of 2", x.likely(2, 1), 2);
        Check.due("mark(0, true)", x.mark(0, true), false);
        Check.due("come is 50: lots(1, 50, 1) near 3600", Math.abs(x.lots(1, 50, 1) - 3600) < 300, true);
    }
}
