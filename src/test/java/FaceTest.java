import java.lang.reflect.Constructor;
import java.lang.reflect.Field;
import java.lang.reflect.Method;
import java.lang.reflect.Modifier;
import java.util.Arrays;
import java.util.Set;
import java.util.TreeSet;

/** The public face is the document's, and nothing else is to be seen from outside. */
public final class FaceTest extends Cases {
    private static final String[] METHODS = {
        "about(int):int", "at(int,int,boolean,int):int",
        "begin(int):int IllegalArgumentException IllegalStateException", "choose():int",
        "crash():void IllegalStateException", "cut(int):void IllegalArgumentException IllegalStateException",
        "differ():int", "end(int):int", "entry(int,int,int):int", "feed(int,int,int,int,int):void",
        "make(int,int,int):int IllegalArgumentException IllegalStateException", "prune(int):int IllegalStateException",
        "regress(int):int IllegalStateException IllegalArgumentException", "remove():int IllegalStateException",
        "restore(int):int IllegalStateException", "session(int,int):int",
        "set(int,int):void IllegalArgumentException IllegalStateException",
        "step(int):int IllegalStateException IllegalArgumentException",
        "write(int):int IllegalArgumentException IllegalStateException"};

    private final Class<?> face = MirrorKeep.class;

    public static void main(String[] args) {
        run(FaceTest.class);
    }

    @Case("public final class MirrorKeep")
    void classIsPublicAndFinal() {
        same("the class", Modifier.toString(face.getModifiers()), "public final");
    }

    @Case("`NONE = -1`: None.")
    void noneIsMinus1() throws ReflectiveOperationException {
        same("NONE", MirrorKeep.NONE, -1);
        same("its face", face.getField("NONE").toString(), "public static final int MirrorKeep.NONE");
    }

    @Case("public MirrorKeep();")
    void oneConstructor() {
        Constructor<?>[] constructors = face.getDeclaredConstructors();
        same("constructors", constructors.length, 1);
        same("the constructor", constructors[0].toString(), "public MirrorKeep()");
    }

    /** LANGUAGE.md's rules 1 and 5. */
    @Case("The public face")
    void noOtherMemberIsSeen() {
        fields(face);
        for (Class<?> inside : face.getDeclaredClasses()) {
            same(inside + " is static", Modifier.isStatic(inside.getModifiers()) ? 1 : 0, 1);
            fields(inside);
        }
    }

    @Case("The public face")
    void methodsAreTheDocuments() {
        Set<String> seen = new TreeSet<>();
        Set<String> publicNames = new TreeSet<>();
        Set<String> privateNames = new TreeSet<>();
        for (Method method : face.getDeclaredMethods()) {
            if (Modifier.isPrivate(method.getModifiers())) {
                privateNames.add(method.getName());
            } else {
                same(method.getName(), Modifier.toString(method.getModifiers()), "public");
                publicNames.add(method.getName());
                seen.add(described(method));
            }
        }
        same("the methods", seen.toString(), new TreeSet<>(Arrays.asList(METHODS)).toString());
        privateNames.retainAll(publicNames);
        same("private methods of a public name", privateNames.toString(), "[]");
    }

    private static String described(Method method) {
        StringBuilder text = new StringBuilder(method.getName()).append('(');
        for (Class<?> type : method.getParameterTypes()) {
            text.append(text.charAt(text.length() - 1) == '(' ? "" : ",").append(type.getName());
        }
        text.append("):").append(method.getReturnType().getName());
        for (Class<?> type : method.getExceptionTypes()) {
            text.append(' ').append(type.getSimpleName());
        }
        return text.toString();
    }

    private void fields(Class<?> type) {
        for (Field field : type.getDeclaredFields()) {
            boolean isNone = field.getName().equals("NONE");
            if (type == MirrorKeep.class && !isNone) {
                same(field + " is private", Modifier.isPrivate(field.getModifiers()) ? 1 : 0, 1);
            }
            if (Modifier.isStatic(field.getModifiers())) {
                same(field + " is final", Modifier.isFinal(field.getModifiers()) ? 1 : 0, 1);
            }
        }
    }
}
