import java.lang.reflect.Constructor;
import java.lang.reflect.Field;
import java.lang.reflect.Method;
import java.lang.reflect.Modifier;
import java.util.Arrays;
import java.util.Set;
import java.util.TreeSet;

/** The public face of the document, and no other member that can be seen from outside. */
public final class LockLoomFace {
    private static final String[] FACE = {
        "body(int):int", "cell(int):int", "check(int):int", "count(int):int", "guard(int, int):boolean",
        "has(int):int", "holder(int):int", "race(int, int):int", "sound():boolean", "start(int, int):boolean",
        "state(int):int", "statement(int, int):int", "step(int):int", "stuck():boolean", "NONE:int", "LockLoom()",
    };

    public static void main(String[] args) {
        int wrong = 0;
        Set<String> due = new TreeSet<>(Arrays.asList(FACE));
        Set<String> found = new TreeSet<>();
        Set<String> hidden = new TreeSet<>();
        for (Method m : LockLoom.class.getDeclaredMethods()) {
            String name = m.getName() + parameters(m.getParameterTypes()) + ":" + m.getReturnType().getSimpleName();
            if (!Modifier.isPrivate(m.getModifiers())) {
                found.add(name);
                wrong += Modifier.isPublic(m.getModifiers()) && !Modifier.isStatic(m.getModifiers()) ? 0 : 1;
            } else {
                hidden.add(m.getName());
            }
        }
        for (Field f : LockLoom.class.getDeclaredFields()) {
            if (!Modifier.isPrivate(f.getModifiers())) {
                found.add(f.getName() + ":" + f.getType().getSimpleName());
                wrong += Modifier.toString(f.getModifiers()).equals("public static final") ? 0 : 1;
            }
        }
        for (Constructor<?> c : LockLoom.class.getDeclaredConstructors()) {
            found.add("LockLoom" + parameters(c.getParameterTypes()));
            wrong += Modifier.isPublic(c.getModifiers()) ? 0 : 1;
        }
        wrong += Modifier.toString(LockLoom.class.getModifiers()).equals("public final") ? 0 : 1;
        if (!found.equals(due)) {
            wrong++;
            System.out.println("the face is " + found + ", due is " + due);
        }
        for (Class<?> inside : LockLoom.class.getDeclaredClasses()) {
            wrong += Modifier.isStatic(inside.getModifiers()) ? 0 : 1;
            for (Method m : inside.getDeclaredMethods()) {
                hidden.add(m.getName());
            }
        }
        for (Method m : LockLoom.class.getMethods()) {
            if (m.getDeclaringClass() == LockLoom.class && hidden.contains(m.getName())) {
                wrong++;
                System.out.println("a method inside is named as the public " + m.getName());
            }
        }
        System.out.println(found.size() + " members of the face, " + wrong + " faults");
        if (wrong != 0) {
            System.exit(1);
        }
    }

    private static String parameters(Class<?>[] types) {
        String names = Arrays.toString(Arrays.stream(types).map(Class::getSimpleName).toArray());
        return "(" + names.substring(1, names.length() - 1) + ")";
    }
}
