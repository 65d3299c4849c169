import java.lang.reflect.Constructor;
import java.lang.reflect.Field;
import java.lang.reflect.Method;
import java.lang.reflect.Modifier;
import java.util.Arrays;
import java.util.Set;
import java.util.TreeSet;

/** The public face is the document's, with its exceptions, and the class has nothing else that others see. */
public final class FaceTest {
    private static final String IAE = " IllegalArgumentException";
    private static final String ISE = " IllegalStateException";
    private static final String IOOBE = " IndexOutOfBoundsException";
    private static final String NSEE = " NoSuchElementException";
    private static final String[] FACE = {
        "int sheet(int)" + IAE + ISE, "int row(int,int,int)" + IOOBE, "int put(int,int,int,long)" + IOOBE,
        "int tear(int,int)" + IOOBE, "int feed(int,int,int,int,int)", "int fit(int)" + IAE,
        "boolean says(int,int,int,int)" + IOOBE, "int part(int,int,int)" + IAE + IOOBE,
        "int told(int,int,int)" + NSEE + IAE, "int car(int,int,int,int)" + IAE, "int about(int,int)" + NSEE + IAE,
        "int drain(int)" + NSEE, "int papers(int)" + NSEE, "int hinders(int,int)" + NSEE, "int take(int,int)" + NSEE,
        "int press(int)" + NSEE, "int day(int)" + IAE + ISE, "int late(int,int)" + IAE,
        "int item(int,int)" + NSEE + IAE, "int find(int,int,int,int)" + IAE, "int found(int)",
        "int sell(int,int)" + NSEE + IAE, "int back(int,int)" + NSEE + IAE, "int best(int,int)" + NSEE + IAE,
        "int worth(int,int)" + NSEE + IAE, "int grams(int,int)" + IAE, "int count(int)", "long till()", "int undo()"};

    private FaceTest() {
    }

    public static void main(String[] args) throws ReflectiveOperationException {
        Class<?> face = BreakersYard.class;
        Check.due("final", Modifier.isFinal(face.getModifiers()), true);
        Set<String> seen = new TreeSet<>();
        for (Method method : face.getDeclaredMethods()) {
            if (!Modifier.isPrivate(method.getModifiers()) && !method.isSynthetic()) {
                Check.due("public " + method, Modifier.isPublic(method.getModifiers()), true);
                seen.add(signOf(method));
            }
        }
        for (String due : FACE) {
            Check.due(due, seen.remove(due), true);
        }
        Check.due("no more than " + seen, seen.size(), 0);
        for (Field field : face.getDeclaredFields()) {
            boolean isNone = field.getName().equals("NONE");
            Check.due("private " + field, Modifier.isPrivate(field.getModifiers()), !isNone);
            Check.due("not changed " + field, !Modifier.isStatic(field.getModifiers())
                    || Modifier.isFinal(field.getModifiers()), true);
        }
        Check.due("NONE", face.getField("NONE").getInt(null), -1);
        Constructor<?>[] constructors = face.getDeclaredConstructors();
        Check.due("one constructor", constructors.length, 1);
        Check.due("without parameters", constructors[0].getParameterCount(), 0);
        Check.due("public constructor", Modifier.isPublic(constructors[0].getModifiers()), true);
        classesInside(face);
        Check.end();
    }

    private static String signOf(Method method) {
        StringBuilder sign = new StringBuilder(method.getReturnType() + " " + method.getName() + "(");
        for (Class<?> type : method.getParameterTypes()) {
            sign.append(sign.charAt(sign.length() - 1) == '(' ? "" : ",").append(type);
        }
        sign.append(")");
        for (Class<?> type : method.getExceptionTypes()) {
            sign.append(" ").append(type.getSimpleName());
        }
        return sign.toString();
    }

    private static void classesInside(Class<?> face) {
        Set<String> names = new TreeSet<>();
        for (Method method : face.getMethods()) {
            names.add(method.getName());
        }
        Check.due("classes", face.getDeclaredClasses().length <= 11, true);
        for (Class<?> inside : face.getDeclaredClasses()) {
            Check.due("static " + inside, Modifier.isStatic(inside.getModifiers()), true);
            Check.due("not public " + inside, Modifier.isPublic(inside.getModifiers()), false);
            Check.due("fields of " + inside, Arrays.stream(inside.getDeclaredFields())
                    .filter(field -> !Modifier.isStatic(field.getModifiers())).count() <= 20, true);
            for (Method method : inside.getDeclaredMethods()) {
                Check.due("another name than the face's: " + method, names.contains(method.getName()), false);
            }
        }
    }
}
