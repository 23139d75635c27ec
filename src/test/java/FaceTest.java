import java.lang.reflect.Constructor;
import java.lang.reflect.Field;
import java.lang.reflect.Method;
import java.lang.reflect.Modifier;
import java.util.NoSuchElementException;
import java.util.Set;
import java.util.TreeSet;

/** The public face is that of the document, and nothing else can be seen of the class. */
public final class FaceTest {
    private static final String[] FACE = {"int status()", "boolean tray(int,int,int)", "boolean write(int,int,long)",
        "long read(int,int)", "boolean pour(int,int,int,int,int)", "int weight(int)", "int load(int,int)",
        "int rod(int,int,boolean)", "int plate(int,int)", "int part(int,int)", "long rodAt(int,int)",
        "long middle(int,int)", "boolean hang(int,int,int,int)", "boolean take(int)", "boolean thread(int,int)",
        "boolean tied(int,int,int)", "boolean swap(int)", "long bears(int)", "int tilts(int)", "int wrong(int)",
        "long tie(int,int)", "int all(int)", "int reach(int,int,boolean)", "int lowest(int)", "int clash(int,int)",
        "int clashes(int)", "int clear(int)", "int ways(int,int)", "int fill(int,int,int)", "int fewest(int,int)",
        "int suspect(int)", "int cut()", "int same(int,int)", "int show(int)", "int out(int)"};

    public static void main(String[] args) throws NoSuchMethodException {
        Class<?> it = MobileMaker.class;
        Due.is("public and final", it.getModifiers(), Modifier.PUBLIC | Modifier.FINAL);
        Set<String> want = new TreeSet<>(Set.of(FACE));
        Set<String> names = new TreeSet<>();
        for (String face : FACE) {
            names.add(face.substring(face.indexOf(' ') + 1, face.indexOf('(')));
        }
        for (Method method : it.getDeclaredMethods()) {
            if (Modifier.isPrivate(method.getModifiers())) {
                Due.is("a private " + method.getName(), names.contains(method.getName()), false);
            } else {
                Due.is(told(method) + " is of the face", want.remove(told(method)), true);
                Due.is(method.getName() + " is public", method.getModifiers(), Modifier.PUBLIC);
            }
        }
        Due.is("missing: " + want, want.size(), 0);
        for (Field field : it.getDeclaredFields()) {
            boolean constant = field.getName().equals("NONE");
            Due.is(field.getName(), Modifier.isPrivate(field.getModifiers()), !constant);
            Due.is(field.getName(), !Modifier.isStatic(field.getModifiers())
                    || Modifier.isFinal(field.getModifiers()), true);
        }
        for (Constructor<?> constructor : it.getDeclaredConstructors()) {
            Due.is("constructor", constructor.getParameterCount(), 0);
            Due.is("constructor", constructor.getModifiers(), Modifier.PUBLIC);
        }
        Due.is("NONE", MobileMaker.NONE, -1);
        Class<?>[] thrown = it.getMethod("out", int.class).getExceptionTypes();
        Due.is("out throws", thrown.length == 1 && thrown[0] == NoSuchElementException.class, true);
        inside(it.getDeclaredClasses(), names);
        Due.end();
    }

    private static String told(Method method) {
        StringBuilder text = new StringBuilder(method.getReturnType().getName());
        text.append(' ').append(method.getName()).append('(');
        for (Class<?> type : method.getParameterTypes()) {
            text.append(text.charAt(text.length() - 1) == '(' ? "" : ",").append(type.getName());
        }
        return text.append(')').toString();
    }

    private static void inside(Class<?>[] classes, Set<String> names) {
        Due.is("at most twelve classes", classes.length <= 11, true);
        for (Class<?> one : classes) {
            Due.is(one.getName() + " is private", Modifier.isPrivate(one.getModifiers()), true);
            Due.is(one.getName() + " is static", Modifier.isStatic(one.getModifiers()), true);
            Due.is(one.getName() + " has few fields", one.getDeclaredFields().length <= 20, true);
            for (Method method : one.getDeclaredMethods()) {
                Due.is(one.getName() + "." + method.getName(), names.contains(method.getName()), false);
                Due.is("parameters", method.getParameterCount() <= 7, true);
            }
        }
    }
}
