import java.lang.reflect.Constructor;
import java.lang.reflect.Field;
import java.lang.reflect.Method;
import java.lang.reflect.Modifier;
import java.util.ArrayList;
import java.util.Arrays;
import java.util.Collections;
import java.util.List;

/** The public face: every constant, constructor and method of the document, and nothing else. */
public final class FaceTest {
    private static final String[] METHODS = {
        "int append(int,int,int,int,int) IllegalStateException",
        "int truncate(int) IndexOutOfBoundsException",
        "int load() IllegalArgumentException",
        "int errorCode()",
        "int errorPosition()",
        "int find(int) IllegalArgumentException NoSuchElementException",
        "int count(int) IllegalArgumentException",
        "int host(int,int) IndexOutOfBoundsException IllegalArgumentException",
        "int service(int,int) IndexOutOfBoundsException IllegalArgumentException",
        "int baseByte(int,int) IndexOutOfBoundsException",
        "boolean haveSameName(int,int) IndexOutOfBoundsException",
        "int record(int,int,int) IndexOutOfBoundsException IllegalArgumentException",
        "int recordByte(int,int,int) IndexOutOfBoundsException",
        "int browser(int,int,int) IndexOutOfBoundsException IllegalArgumentException",
        "int message(int,int) IndexOutOfBoundsException IllegalArgumentException",
        "boolean isMarked(int) IllegalArgumentException",
        "int log(int,int) IndexOutOfBoundsException IllegalArgumentException",
        "int known(int,int) IndexOutOfBoundsException",
        "int records(int,int) IndexOutOfBoundsException",
        "int stale()",
        "int clashes()",
        "double coverage()",
        "int why(int,int) IndexOutOfBoundsException IllegalArgumentException",
        "int establishedIn(int) IndexOutOfBoundsException NoSuchElementException",
        "int numberIn(int,int) IndexOutOfBoundsException IllegalArgumentException",
        "int knownIn(int,int) IndexOutOfBoundsException NoSuchElementException",
        "int messagesIn(int) IllegalArgumentException",
        "int freshIn() NoSuchElementException",
        "int numberIf(int,int,int,int) IndexOutOfBoundsException IllegalArgumentException "
            + "IllegalStateException NoSuchElementException",
        "int write()",
        "int outputByte(int) IndexOutOfBoundsException",
        "int pass(int) IllegalArgumentException IllegalStateException",
        "int add(int,int,int,int) IndexOutOfBoundsException IllegalArgumentException IllegalStateException",
        "int withdraw(int) IndexOutOfBoundsException IllegalStateException",
        "int setPort(int,int) IndexOutOfBoundsException IllegalArgumentException",
        "int setOn(int,boolean,boolean) IndexOutOfBoundsException",
        "int setSide(int,int) IndexOutOfBoundsException IllegalArgumentException",
        "int browse(int,int,boolean) IndexOutOfBoundsException IllegalStateException",
        "int mark(int) IllegalArgumentException IllegalStateException",
        "int undo() IllegalStateException",
        "void save(int) IndexOutOfBoundsException",
        "void restore(int) IndexOutOfBoundsException NoSuchElementException",
    };

    private FaceTest() {
    }

    public static void main(String[] args) {
        Class<LinkDirectory> face = LinkDirectory.class;
        Check.same("the class is public and final", Modifier.PUBLIC | Modifier.FINAL, face.getModifiers());
        Check.same("nothing is extended", "class java.lang.Object", face.getSuperclass().toString());
        Check.same("nothing is implemented", 0, face.getInterfaces().length);
        Check.same("the constants", "[ANNOUNCING=1, ESTABLISHED=2, NONE=-1, PROBING=0, WITHDRAWN=3]", constants());
        Check.same("the constructors", "[public LinkDirectory()]", constructors());
        Check.same("the methods", sorted(Arrays.asList(METHODS)), methods());
        for (Class<?> inside : face.getDeclaredClasses()) {
            boolean isHidden = !Modifier.isPublic(inside.getModifiers()) && !Modifier.isProtected(inside.getModifiers());
            Check.same("hidden and static: " + inside, 1, isHidden && Modifier.isStatic(inside.getModifiers()) ? 1 : 0);
            for (Method method : inside.getDeclaredMethods()) {
                Check.same("the name is not one of the face: " + method, 0, isOfFace(method.getName()) ? 1 : 0);
            }
        }
        Check.end();
    }

    private static String constants() {
        List<String> found = new ArrayList<>();
        for (Field field : LinkDirectory.class.getDeclaredFields()) {
            if (Modifier.isPrivate(field.getModifiers())) {
                continue;
            }
            try {
                Check.same("public static final int: " + field,
                    Modifier.PUBLIC | Modifier.STATIC | Modifier.FINAL, field.getModifiers());
                found.add(field.getName() + "=" + field.getInt(null));
            } catch (ReflectiveOperationException e) {
                found.add(field.getName() + " cannot be read");
            }
        }
        return sorted(found);
    }

    private static String constructors() {
        List<String> found = new ArrayList<>();
        for (Constructor<?> constructor : LinkDirectory.class.getDeclaredConstructors()) {
            found.add(constructor.toString());
        }
        return sorted(found);
    }

    private static String methods() {
        List<String> found = new ArrayList<>();
        for (Method method : LinkDirectory.class.getDeclaredMethods()) {
            if (Modifier.isPrivate(method.getModifiers())) {
                Check.same("the name is not one of the face: " + method, 0, isOfFace(method.getName()) ? 1 : 0);
                continue;
            }
            Check.same("public: " + method, Modifier.PUBLIC, method.getModifiers());
            StringBuilder line = new StringBuilder(method.getReturnType() + " " + method.getName() + "(");
            for (Class<?> parameter : method.getParameterTypes()) {
                line.append(line.charAt(line.length() - 1) == '(' ? "" : ",").append(parameter);
            }
            line.append(')');
            for (Class<?> thrown : method.getExceptionTypes()) {
                line.append(' ').append(thrown.getSimpleName());
            }
            found.add(line.toString());
        }
        return sorted(found);
    }

    private static boolean isOfFace(String name) {
        for (String method : METHODS) {
            if (method.contains(" " + name + "(")) {
                return true;
            }
        }
        return false;
    }

    private static String sorted(List<String> lines) {
        List<String> copy = new ArrayList<>(lines);
        Collections.sort(copy);
        return copy.toString();
    }
}
