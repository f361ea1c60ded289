import java.lang.reflect.Constructor;
import java.lang.reflect.Field;
import java.lang.reflect.Method;
import java.lang.reflect.Modifier;
import java.util.Arrays;
import java.util.Set;
import java.util.TreeSet;

/** The public face is the document's, and nothing else is to be seen from outside. */
public final class FaceTest {
    private static final String[] METHODS = {
        "about(int):int", "at(int,int,boolean,int):int",
        "begin(int):int IllegalArgumentException IllegalStateException", "choose():int",
        "crash():void IllegalStateException", "cut(int):void IllegalArgumentException IllegalStateException",
        "differ():int", "end(int):int", "entry(int,int,int):int", "feed(int,int,int,int,int):void",
        "make(int,int,int):int IllegalArgumentException IllegalStateException", "prune(int):int IllegalStateException",
        "regress(int):int IllegalStateException IllegalArgumentException", "remove():int IllegalStateException",
        "restore(int):int IllegalStateException", "session(int,int):int",
        "set(int,int):void IllegalArgumentException IllegalStateException",
        "step(int):int IllegalStateException IllegalArgumentException",
        "write(int):int IllegalArgumentException IllegalStateException"};

    public static void main(String[] args) {
        Class<?> face = MirrorKeep.class;
        Checks.same("the class", Modifier.toString(face.getModifiers()), "public final");
        Checks.same("NONE", MirrorKeep.NONE, -1);
        methods(face);
        fields(face);
        Constructor<?>[] constructors = face.getDeclaredConstructors();
        Checks.same("constructors", constructors.length, 1);
        Checks.same("the constructor", constructors[0].toString(), "public MirrorKeep()");
        for (Class<?> inside : face.getDeclaredClasses()) {
            Checks.same(inside + " is static", Modifier.isStatic(inside.getModifiers()) ? 1 : 0, 1);
            fields(inside);
        }
        Checks.finish();
    }

    private static void methods(Class<?> face) {
        Set<String> seen = new TreeSet<>();
        Set<String> publicNames = new TreeSet<>();
        Set<String> privateNames = new TreeSet<>();
        for (Method method : face.getDeclaredMethods()) {
            if (Modifier.isPrivate(method.getModifiers())) {
                privateNames.add(method.getName());
            } else {
                Checks.same(method.getName(), Modifier.toString(method.getModifiers()), "public");
                publicNames.add(method.getName());
                seen.add(described(method));
            }
        }
        Checks.same("the methods", seen.toString(), new TreeSet<>(Arrays.asList(METHODS)).toString());
        privateNames.retainAll(publicNames);
        Checks.same("private methods of a public name", privateNames.toString(), "[]");
    }

    private static String described(Method method) {
        StringBuilder text = new StringBuilder(method.getName()).append('(');
        for (Class<?> type : method.getParameterTypes()) {
            text.append(text.charAt(text.length() - 1) == '(' ? "" : ",").append(type.getName());
        }
        text.append("):").append(method.getReturnType().getName());
        for (Class<?> type : method.getExceptionTypes()) {
            text.append(' ').append(type.getSimpleName());
        }
        return text.toString();
    }

    private static void fields(Class<?> type) {
        for (Field field : type.getDeclaredFields()) {
            boolean isNone = field.getName().equals("NONE");
            if (type == MirrorKeep.class && !isNone) {
                Checks.same(field + " is private", Modifier.isPrivate(field.getModifiers()) ? 1 : 0, 1);
            }
            if (Modifier.isStatic(field.getModifiers())) {
                Checks.same(field + " is final", Modifier.isFinal(field.getModifiers()) ? 1 : 0, 1);
            }
        }
    }
}
