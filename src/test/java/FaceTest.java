import java.lang.reflect.Constructor;
import java.lang.reflect.Field;
import java.lang.reflect.Method;
import java.lang.reflect.Modifier;
import java.util.Set;
import java.util.TreeSet;

/** The class must show just the members of the document's face, with the constants' values. */
public final class FaceTest {
    private static final Set<String> FACE = Set.of(
            "NONE = -1", "FULL = -2", "REFUSED = -3", "OPEN = 0", "CLOSE = 1", "DECLARE = 2", "USE = 3",
            "RenameDesk()", "int add(int,int)", "int drop()", "int length()", "int token(int)", "int bound(int)",
            "int uses(int)", "int free()", "int unused()", "int names(int)", "int rename(int,int)", "int swap(int)",
            "int moveOut(int)", "boolean canMoveOut(int)", "int depth(int)", "int visible(int)");

    private static String parameters(Class<?>[] types) {
        StringBuilder text = new StringBuilder();
        for (Class<?> type : types) {
            text.append(text.length() == 0 ? "" : ",").append(type.getName());
        }
        return "(" + text + ")";
    }

    private static String shown(Field field) throws IllegalAccessException {
        int modifiers = field.getModifiers();
        boolean constant = Modifier.isStatic(modifiers) && Modifier.isFinal(modifiers) && Modifier.isPublic(modifiers);
        return constant && field.getType() == int.class
                ? field.getName() + " = " + field.getInt(null) : "field " + field.getName();
    }

    private static String shown(Method method) {
        int modifiers = method.getModifiers();
        boolean plain = Modifier.isPublic(modifiers) && !Modifier.isStatic(modifiers);
        return (plain ? "" : "not a public method of an object: ")
                + method.getReturnType().getName() + " " + method.getName() + parameters(method.getParameterTypes());
    }

    private static Set<String> shownMembers() throws IllegalAccessException {
        Set<String> members = new TreeSet<>();
        for (Field field : RenameDesk.class.getDeclaredFields()) {
            if (!Modifier.isPrivate(field.getModifiers())) {
                members.add(shown(field));
            }
        }
        for (Constructor<?> constructor : RenameDesk.class.getDeclaredConstructors()) {
            if (!Modifier.isPrivate(constructor.getModifiers())) {
                members.add(constructor.getName() + parameters(constructor.getParameterTypes()));
            }
        }
        for (Method method : RenameDesk.class.getDeclaredMethods()) {
            if (!Modifier.isPrivate(method.getModifiers())) {
                members.add(shown(method));
            }
        }
        return members;
    }

    private static int privateNamesakes() {
        Set<String> open = new TreeSet<>();
        int found = 0;
        for (Method method : RenameDesk.class.getMethods()) {
            open.add(method.getName());
        }
        for (Method method : RenameDesk.class.getDeclaredMethods()) {
            if (Modifier.isPrivate(method.getModifiers()) && open.contains(method.getName())) {
                System.out.println("a private method bears a public one's name: " + method.getName());
                found++;
            }
        }
        return found;
    }

    private static int difference(String what, Set<String> from, Set<String> without) {
        Set<String> rest = new TreeSet<>(from);
        rest.removeAll(without);
        for (String member : rest) {
            System.out.println(what + ": " + member);
        }
        return rest.size();
    }

    public static void main(String[] args) throws IllegalAccessException {
        Set<String> members = shownMembers();
        int wrong = difference("missing", FACE, members) + difference("not in the document", members, FACE);
        wrong += privateNamesakes();
        int modifiers = RenameDesk.class.getModifiers();
        if (!Modifier.isPublic(modifiers) || !Modifier.isFinal(modifiers)) {
            System.out.println("the class is not public and final");
            wrong++;
        }
        System.out.println(wrong == 0 ? "the face is as due" : wrong + " members are not as due");
        if (wrong != 0) {
            System.exit(1);
        }
    }
}
