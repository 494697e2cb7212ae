import java.lang.reflect.Constructor;
import java.lang.reflect.Field;
import java.lang.reflect.Method;
import java.lang.reflect.Modifier;
import java.util.Set;
import java.util.TreeSet;

// The public face is exactly the document's, and what LANGUAGE.md says of members and types holds.
public final class FaceTest {
    private static final Set<Class<?>> PLAIN = Set.of(int.class, long.class, short.class, byte.class, char.class,
            boolean.class, int[].class, long[].class, short[].class, byte[].class, char[].class, boolean[].class);

    private static int wrong = 0;

    private static void check(boolean right, String what) {
        if (!right) {
            wrong++;
            System.out.println("not so: " + what);
        }
    }

    private static void dueMembers() {
        Set<String> want = new TreeSet<>(Set.of("BAD_ARG", "FULL", "NONE", "CubeViews/0", "add/2", "remove/0",
                "change/2", "facts/0", "count/1", "sum/1", "greatest/1", "groups/2", "topSum/2", "topGroup/2",
                "quarter/2", "growth/1", "atLeast/2", "plan/1"));
        Set<String> got = new TreeSet<>();
        Set<String> publicNames = new TreeSet<>();
        Set<String> privateNames = new TreeSet<>();
        for (Constructor<?> c : CubeViews.class.getDeclaredConstructors()) {
            check(Modifier.isPublic(c.getModifiers()), "the constructor is public");
            got.add("CubeViews/" + c.getParameterCount());
        }
        for (Field f : CubeViews.class.getDeclaredFields()) {
            if (!Modifier.isPrivate(f.getModifiers())) {
                got.add(f.getName());
            }
        }
        for (Method m : CubeViews.class.getDeclaredMethods()) {
            if (Modifier.isPrivate(m.getModifiers())) {
                privateNames.add(m.getName());
            } else {
                publicNames.add(m.getName());
                got.add(m.getName() + "/" + m.getParameterCount());
                check(m.getModifiers() == Modifier.PUBLIC, m.getName() + " is public and nothing else");
                check(m.getReturnType() == int.class, m.getName() + " answers an int");
                for (Class<?> type : m.getParameterTypes()) {
                    check(type == int.class, m.getName() + " takes ints");
                }
            }
        }
        check(got.equals(want), "the visible members are " + want + ", found " + got);
        privateNames.retainAll(publicNames);
        check(privateNames.isEmpty(), "no private method bears a public name, found " + privateNames);
    }

    private static void dueConstants() {
        check(CubeViews.BAD_ARG == -1000000, "BAD_ARG is -1000000");
        check(CubeViews.FULL == -2000000, "FULL is -2000000");
        check(CubeViews.NONE == -4000000, "NONE is -4000000");
        int constant = Modifier.PUBLIC | Modifier.STATIC | Modifier.FINAL;
        for (Field f : CubeViews.class.getDeclaredFields()) {
            if (Modifier.isPublic(f.getModifiers())) {
                check(f.getModifiers() == constant && f.getType() == int.class, f.getName() + " is a constant int");
            }
        }
    }

    private static void dueLanguage() {
        check(CubeViews.class.getModifiers() == (Modifier.PUBLIC | Modifier.FINAL), "the class is public and final");
        check(CubeViews.class.getPackageName().isEmpty(), "there is no package");
        check(CubeViews.class.getDeclaredClasses().length == 0, "there is no nested class");
        check(CubeViews.class.getSuperclass() == Object.class, "it extends nothing");
        check(CubeViews.class.getInterfaces().length == 0, "it implements nothing");
        for (Field f : CubeViews.class.getDeclaredFields()) {
            check(PLAIN.contains(f.getType()), f.getName() + " has an allowed type");
            if (Modifier.isStatic(f.getModifiers())) {
                boolean whole = f.getType() == int.class || f.getType() == long.class;
                check(whole && Modifier.isFinal(f.getModifiers()), f.getName() + " is a constant int or long");
            }
        }
        for (Method m : CubeViews.class.getDeclaredMethods()) {
            check(m.getParameterCount() <= 7, m.getName() + " takes at most seven parameters");
            check(!m.getReturnType().isArray(), m.getName() + " answers no array");
            for (Class<?> type : m.getParameterTypes()) {
                check(PLAIN.contains(type), m.getName() + " takes allowed types");
            }
        }
    }

    public static void main(String[] args) {
        dueMembers();
        dueConstants();
        dueLanguage();
        System.out.println(wrong == 0 ? "the face is as due" : wrong + " things are not as due");
        if (wrong != 0) {
            System.exit(1);
        }
    }
}
