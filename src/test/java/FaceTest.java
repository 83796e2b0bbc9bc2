import java.lang.reflect.Constructor;
import java.lang.reflect.Field;
import java.lang.reflect.Method;
import java.lang.reflect.Modifier;
import java.util.TreeSet;

/** The public face is the document's, and nothing of the class but classes is seen from outside. */
public final class FaceTest {
    private static final String[] FACE = {
        "boolean finish(int)", "boolean from(int,int)", "boolean gather(int,int,int,int)", "boolean input(int)",
        "boolean link(int,int,int)", "boolean preset(int,int)", "boolean scatter(int,int,int)", "boolean when(int)",
        "boolean write(char)", "int job(int,int)", "int output(int,int)", "int port(int,int,char,int)",
        "int running()", "int start(int)", "int started()", "int state(int)", "int status()", "int step(int)",
        "int tool(int)", "int word(int,int,int)",
    };

    public static void main(String[] args) {
        Class<?> face = StepRunner.class;
        Expect.yes("the class is public and final", Modifier.isPublic(face.getModifiers())
            && Modifier.isFinal(face.getModifiers()));
        TreeSet<String> due = new TreeSet<>();
        TreeSet<String> names = new TreeSet<>();
        for (String method : FACE) {
            due.add(method);
            names.add(method.substring(method.indexOf(' ') + 1, method.indexOf('(')));
        }
        TreeSet<String> found = new TreeSet<>();
        for (Method method : face.getDeclaredMethods()) {
            if (Modifier.isPrivate(method.getModifiers())) {
                Expect.no("a private method is named " + method.getName(), names.contains(method.getName()));
            } else {
                found.add(textOf(method));
            }
        }
        Expect.equal("methods", found, due);
        for (Field field : face.getDeclaredFields()) {
            Expect.yes("field " + field.getName() + " is private", Modifier.isPrivate(field.getModifiers()));
        }
        Constructor<?>[] constructors = face.getDeclaredConstructors();
        Expect.equal("constructors", constructors.length, 1);
        Expect.equal("its parameters", constructors[0].getParameterCount(), 0);
        for (Class<?> inside : face.getDeclaredClasses()) {
            Expect.yes(inside + " is static", Modifier.isStatic(inside.getModifiers()));
            Expect.no(inside + " is public", Modifier.isPublic(inside.getModifiers()));
        }
        Expect.end();
    }

    private static String textOf(Method method) {
        StringBuilder text = new StringBuilder(method.getReturnType().getName());
        text.append(' ').append(method.getName()).append('(');
        for (int i = 0; i < method.getParameterCount(); i++) {
            text.append(i > 0 ? "," : "").append(method.getParameterTypes()[i].getName());
        }
        return text.append(')').toString();
    }
}
