import java.lang.reflect.Constructor;
import java.lang.reflect.Executable;
import java.lang.reflect.Field;
import java.lang.reflect.Method;
import java.lang.reflect.Modifier;
import java.util.ArrayList;
import java.util.HashSet;
import java.util.List;
import java.util.Set;

/** "The public face" of the document, and what LANGUAGE.md asks of it and of the classes inside. */
public final class FaceTest extends Checks {
    /** As the document writes them, without the names of what is told. */
    private static final String[] FACE = {
        "public AgeSets()",
        "public int man(int, int, int)",
        "public int son(int, int, int)",
        "public int span(int, int, int, int)",
        "public int death(int, int)",
        "public int miss(int, int)",
        "public int about(int, int)",
        "public long step(int, int) throws IllegalArgumentException",
        "public int grade(int, int, int)",
        "public int born(int, int)",
        "public int forefather(int, int)",
        "public int law(int, int, int, int)",
        "public int holds(int, int)",
        "public int could(int, int, int)",
        "public int put(int, int, int)",
        "public int empty(int, int)",
        "public int holder(int, int)",
        "public int held(int, int)",
        "public int fill(int)",
        "public int room(int)",
        "public int breaches()",
        "public int breach(int)",
        "public int may(int, int)",
        "public int marry(int, int)",
        "public int numbers(int, int, int)",
        "public int outside(int, int)",
        "public int best()",
        "public long owes(int, int) throws IllegalArgumentException",
        "public int pay(int, int)",
        "public int moons(int, int)",
        "public int count(int)",
        "public int keep(int, int, int)",
        "public int make(int, int, int)",
        "public long element(int, int) throws IllegalArgumentException, IllegalStateException",
        "public int copy(int, int, int, int, int)",
        "public int weight(int)",
        "public int toss(int)"
    };

    private static boolean isOurs(Executable member) {
        return !member.isSynthetic() && !Modifier.isPrivate(member.getModifiers());
    }

    private static String names(Class<?>[] types) {
        List<String> names = new ArrayList<>();
        for (Class<?> type : types) {
            names.add(type.getSimpleName());
        }
        return String.join(", ", names);
    }

    private static String written(Executable member, String name) {
        String thrown = names(member.getExceptionTypes());
        String modifiers = Modifier.toString(member.getModifiers());
        return modifiers + " " + name + "(" + names(member.getParameterTypes()) + ")"
                + (thrown.isEmpty() ? "" : " throws " + thrown);
    }

    /** All that is seen from outside: what isn't private. */
    private static Set<String> seen() {
        Set<String> seen = new HashSet<>();
        for (Constructor<?> constructor : AgeSets.class.getDeclaredConstructors()) {
            if (isOurs(constructor)) {
                seen.add(written(constructor, "AgeSets"));
            }
        }
        for (Method method : AgeSets.class.getDeclaredMethods()) {
            if (isOurs(method)) {
                seen.add(written(method, method.getReturnType().getSimpleName() + " " + method.getName()));
            }
        }
        return seen;
    }

    private static void face() {
        says("The public face: what it has", () -> {
            Set<String> seen = seen();
            for (String member : FACE) {
                dueTrue(member, seen.contains(member));
            }
        });
        says("The public face: nothing else", () -> {
            Set<String> others = seen();
            others.removeAll(Set.of(FACE));
            dueTrue("seen from outside too: " + others, others.isEmpty());
            for (Field field : AgeSets.class.getDeclaredFields()) {
                dueTrue("private " + field.getName(), Modifier.isPrivate(field.getModifiers()));
            }
        });
        says("public final class AgeSets", () -> {
            int modifiers = AgeSets.class.getModifiers();
            dueTrue("public and final", Modifier.isPublic(modifiers) && Modifier.isFinal(modifiers));
            dueTrue("without a package", AgeSets.class.getPackageName().isEmpty());
        });
    }

    private static List<Class<?>> allClasses() {
        List<Class<?>> all = new ArrayList<>(List.of(AgeSets.class.getDeclaredClasses()));
        all.add(AgeSets.class);
        return all;
    }

    private static void language() {
        says("LANGUAGE.md 1: no private method bears the name of a public one", () -> {
            Set<String> faceNames = new HashSet<>();
            for (Method method : AgeSets.class.getMethods()) {
                faceNames.add(method.getName());
            }
            for (Class<?> one : allClasses()) {
                for (Method method : one.getDeclaredMethods()) {
                    boolean isFace = one == AgeSets.class && isOurs(method);
                    dueTrue(one.getName() + "." + method.getName(), isFace || !faceNames.contains(method.getName()));
                }
            }
        });
        says("LANGUAGE.md 1, 2: classes inside are private or package-visible, and static", () -> {
            for (Class<?> inside : AgeSets.class.getDeclaredClasses()) {
                int modifiers = inside.getModifiers();
                dueTrue(inside.getName(), Modifier.isStatic(modifiers)
                        && !Modifier.isPublic(modifiers) && !Modifier.isProtected(modifiers));
            }
        });
        says("LANGUAGE.md 5: static fields are final", () -> {
            for (Class<?> one : allClasses()) {
                for (Field field : one.getDeclaredFields()) {
                    int modifiers = field.getModifiers();
                    dueTrue(field.getName(), !Modifier.isStatic(modifiers) || Modifier.isFinal(modifiers));
                }
            }
        });
        says("LANGUAGE.md 11: seven parameters, twelve classes, twenty fields beside constants", () -> {
            dueTrue("classes", allClasses().size() <= 12);
            for (Class<?> one : allClasses()) {
                int fields = 0;
                for (Field field : one.getDeclaredFields()) {
                    fields += Modifier.isStatic(field.getModifiers()) ? 0 : 1;
                }
                dueTrue("fields of " + one.getName(), fields <= 20);
                for (Method method : one.getDeclaredMethods()) {
                    dueTrue(method.getName(), method.getParameterCount() <= 7);
                }
            }
        });
    }

    public static void main(String[] args) {
        face();
        language();
        tellEnd();
    }
}
