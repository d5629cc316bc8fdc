import java.lang.reflect.Constructor;
import java.lang.reflect.Field;
import java.lang.reflect.Method;
import java.lang.reflect.Modifier;
import java.util.Arrays;
import java.util.HashSet;
import java.util.Set;
import java.util.TreeSet;

/** The public face: just what the document names, and what LANGUAGE.md asks of the names beside it. */
final class FaceTest {
    private static final String[] FACE = {
        "int feed(long,long,long)", "int river()", "int person(int,int)", "boolean use(int)", "int rings()",
        "int ring(int,int)", "int waits(int,int)", "int all(int)", "int bank(int,int,int)", "int send(int,int)",
        "int turn(int,int)", "int asks(int)", "int choice(int)", "int chosen(int)", "int rests()", "int rest(int)",
        "int tell(int)", "boolean clear()", "int judged(int)", "long likely(int,int)", "long mean(int,int)",
        "long came(int)", "int lots(int,int,int)", "int best()", "boolean mark(int,boolean)", "int count(int)"};

    public static void main(String[] args) {
        Check.says(1, "## The public face");
        Set<String> found = new TreeSet<>();
        Set<String> publicNames = new HashSet<>();
        for (Method method : EvenFerry.class.getDeclaredMethods()) {
            if (!Modifier.isPrivate(method.getModifiers())) {
                found.add(told(method));
                publicNames.add(method.getName());
            }
        }
        Check.due("the public methods " + found, found.equals(new TreeSet<>(Arrays.asList(FACE))), true);
        for (Method method : EvenFerry.class.getDeclaredMethods()) {
            if (Modifier.isPrivate(method.getModifiers())) {
                Check.due("a private " + method.getName(), publicNames.contains(method.getName()), false);
            }
        }
        for (Class<?> inside : EvenFerry.class.getDeclaredClasses()) {
            Check.due(inside + " is static", Modifier.isStatic(inside.getModifiers()), true);
            for (Method method : inside.getDeclaredMethods()) {
                Check.due(inside + " " + method.getName(), publicNames.contains(method.getName()), false);
            }
        }
        for (Field field : EvenFerry.class.getDeclaredFields()) {
            boolean none = field.getName().equals("NONE");
            Check.due(field + " is private", Modifier.isPrivate(field.getModifiers()), !none);
        }
        Constructor<?>[] constructors = EvenFerry.class.getConstructors();
        Check.due("constructors", constructors.length, 1);
        Check.due("final", Modifier.isFinal(EvenFerry.class.getModifiers()), true);
        Check.says(1, "The constants: `NONE = -1`: None.");
        Check.due("NONE", EvenFerry.NONE, -1);
        Check.end();
    }

    private static String told(Method method) {
        StringBuilder text = new StringBuilder(method.getReturnType() + " " + method.getName() + "(");
        for (Class<?> type : method.getParameterTypes()) {
            text.append(text.charAt(text.length() - 1) == '(' ? "" : ",").append(type);
        }
        return text.append(")").toString();
    }
}
