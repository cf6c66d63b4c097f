import java.lang.reflect.Constructor;
import java.lang.reflect.Field;
import java.lang.reflect.Method;
import java.lang.reflect.Modifier;
import java.util.HashSet;
import java.util.Set;
import java.util.TreeSet;

/** The public face is the document's, and nothing else of the class can be seen from outside. */
public final class FaceTest {
    private static final Checks CHECKS = new Checks("FaceTest");
    private static final String[] FACE = {
        "int begin(int)", "int read(int,int,int,long,long,int)", "boolean cell(int,long)",
        "void clear()", "boolean write(int,int)", "boolean miss(int,int)", "int commit(int)",
        "boolean abort(int)", "boolean doom(int)", "int look(int,int)", "boolean arrow(int,int)",
        "int rings()", "int count(int)"
    };

    public static void main(String[] args) {
        int modifiers = SerialDesk.class.getModifiers();
        CHECKS.due("class is public", Modifier.isPublic(modifiers), true);
        CHECKS.due("class is final", Modifier.isFinal(modifiers), true);
        methodsAreTheDocuments();
        constructorIsTheDocuments();
        fieldsArePrivate();
        innerClassesAreStaticAndHidden();
        CHECKS.end();
    }

    private static void methodsAreTheDocuments() {
        Set<String> seen = new TreeSet<>();
        Set<String> open = new HashSet<>();
        Set<String> hidden = new HashSet<>();
        for (Method method : SerialDesk.class.getDeclaredMethods()) {
            if (Modifier.isPrivate(method.getModifiers())) {
                hidden.add(method.getName());
            } else {
                seen.add(textOf(method));
                open.add(method.getName());
                CHECKS.due(method + " is public", Modifier.isPublic(method.getModifiers()), true);
                CHECKS.due(method + " is static", Modifier.isStatic(method.getModifiers()), false);
            }
        }
        for (String wanted : FACE) {
            CHECKS.due("face has " + wanted, seen.remove(wanted), true);
        }
        CHECKS.due("methods beyond the face " + seen, seen.size(), 0);
        hidden.retainAll(open);
        CHECKS.due("private methods named like public ones " + hidden, hidden.size(), 0);
    }

    private static String textOf(Method method) {
        StringBuilder text = new StringBuilder();
        text.append(method.getReturnType()).append(' ').append(method.getName()).append('(');
        String comma = "";
        for (Class<?> type : method.getParameterTypes()) {
            text.append(comma).append(type);
            comma = ",";
        }
        return text.append(')').toString();
    }

    private static void constructorIsTheDocuments() {
        Constructor<?>[] all = SerialDesk.class.getDeclaredConstructors();
        CHECKS.due("constructors", all.length, 1);
        CHECKS.due("its parameters", all[0].getParameterCount(), 0);
        CHECKS.due("it is public", Modifier.isPublic(all[0].getModifiers()), true);
    }

    private static void fieldsArePrivate() {
        for (Field field : SerialDesk.class.getDeclaredFields()) {
            int modifiers = field.getModifiers();
            CHECKS.due(field + " is private", Modifier.isPrivate(modifiers), true);
            CHECKS.due(field + " is no changing static",
                    Modifier.isStatic(modifiers) && !Modifier.isFinal(modifiers), false);
        }
    }

    private static void innerClassesAreStaticAndHidden() {
        for (Class<?> inner : SerialDesk.class.getDeclaredClasses()) {
            int modifiers = inner.getModifiers();
            CHECKS.due(inner + " is static", Modifier.isStatic(modifiers), true);
            CHECKS.due(inner + " is public", Modifier.isPublic(modifiers), false);
            CHECKS.due(inner + " is protected", Modifier.isProtected(modifiers), false);
        }
    }
}
