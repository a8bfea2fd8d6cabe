import java.lang.reflect.Constructor;
import java.lang.reflect.Field;
import java.lang.reflect.Method;
import java.lang.reflect.Modifier;
import java.util.TreeSet;

/** The public face is the document's, and nothing else of the class can be seen from outside. */
public final class FaceTest {
    private static final String DUE = "[BAD=-1, DOWN=-9, FULL=-2, MALFORMED=-3, TOO_BIG=-5, TOO_MANY=-6, boolean close(int), "
            + "boolean fuse(int), boolean restart(), int open(), int output(int), int page(int), int patch(int), "
            + "int print(int,int), int put(int), int query(int,int), int remove(int), int result(int), int show(int), "
            + "int size(int), int type(char), new()]";

    public static void main(String[] args) throws IllegalAccessException {
        Trial t = new Trial("face");
        Class<?> face = PagedValues.class;
        t.due("class is public and final", Modifier.isPublic(face.getModifiers()) && Modifier.isFinal(face.getModifiers()), true);
        TreeSet<String> seen = new TreeSet<>();
        for (Field field : face.getDeclaredFields()) {
            if (!Modifier.isPrivate(field.getModifiers())) {
                seen.add(field.getName() + "=" + field.getInt(null));
            }
        }
        for (Constructor<?> constructor : face.getDeclaredConstructors()) {
            seen.add("new" + list(constructor.getParameterTypes()));
        }
        for (Method method : face.getDeclaredMethods()) {
            if (!Modifier.isPrivate(method.getModifiers())) {
                seen.add(method.getReturnType() + " " + method.getName() + list(method.getParameterTypes()));
            }
        }
        t.due("members", seen.toString(), DUE);
        Trial.end();
    }

    private static String list(Class<?>[] types) {
        StringBuilder all = new StringBuilder();
        for (Class<?> type : types) {
            all.append(all.length() == 0 ? "" : ",").append(type);
        }
        return "(" + all + ")";
    }
}
