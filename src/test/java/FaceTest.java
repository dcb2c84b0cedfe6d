import java.lang.reflect.Constructor;
import java.lang.reflect.Field;
import java.lang.reflect.Member;
import java.lang.reflect.Method;
import java.lang.reflect.Modifier;
import java.nio.file.Files;
import java.nio.file.Path;
import java.util.ArrayDeque;
import java.util.Set;
import java.util.TreeSet;

/** The class has the face that the document shows, and nothing more of it can be seen (LANGUAGE.md, 1, 2 and 5). */
public final class FaceTest {
    /** The constant, the constructor and a method for each of the promises 2 to 34. */
    private static final int LINES = 35;

    private static int wrong = 0;

    private static void fault(String what) {
        wrong++;
        System.out.println("face: " + what);
    }

    private static String name(Class<?> type) {
        return type.getSimpleName();
    }

    private static String parameters(Class<?>[] types) {
        StringBuilder all = new StringBuilder("(");
        for (Class<?> type : types) {
            all.append(all.length() > 1 ? ", " : "").append(name(type));
        }
        return all.append(")").toString();
    }

    private static boolean isPrivate(Member member) {
        return Modifier.isPrivate(member.getModifiers());
    }

    /** The lines of the document's face, but for the names of the parameters. */
    private static Set<String> faceInDocument() throws Exception {
        String document = Files.readString(Path.of("../shared/DOC.md"));
        int from = document.indexOf("```java") + 7;
        Set<String> lines = new TreeSet<>();
        for (String line : document.substring(from, document.indexOf("```", from)).split("\n")) {
            if (line.startsWith("    ")) {
                lines.add(line.trim().replace(";", "").replaceAll("\\b(int) \\w+(?=[,)])", "$1"));
            }
        }
        return lines;
    }

    private static Set<String> faceOfClass() throws Exception {
        Set<String> lines = new TreeSet<>();
        for (Field field : ThroneSale.class.getDeclaredFields()) {
            if (!isPrivate(field)) {
                boolean isConstant = Modifier.isStatic(field.getModifiers()) && field.getType() == int.class;
                lines.add(Modifier.toString(field.getModifiers()) + " " + name(field.getType()) + " " + field.getName()
                        + (isConstant ? " = " + field.getInt(null) : ""));
            }
        }
        for (Constructor<?> made : ThroneSale.class.getDeclaredConstructors()) {
            if (!isPrivate(made)) {
                lines.add(Modifier.toString(made.getModifiers()) + " ThroneSale" + parameters(made.getParameterTypes()));
            }
        }
        for (Method method : ThroneSale.class.getDeclaredMethods()) {
            if (!isPrivate(method)) {
                lines.add(Modifier.toString(method.getModifiers()) + " " + name(method.getReturnType()) + " "
                        + method.getName() + parameters(method.getParameterTypes()));
            }
        }
        return lines;
    }

    private static void compare(Set<String> told, Set<String> got) {
        for (String line : told) {
            if (!got.contains(line)) {
                fault("there is no " + line);
            }
        }
        for (String line : got) {
            if (!told.contains(line)) {
                fault("the document has no " + line);
            }
        }
        if (told.size() != LINES) {
            fault("the document's face has " + told.size() + " lines, not " + LINES);
        }
    }

    private static void lookInside(Class<?> inside, Set<String> publicNames) {
        int flags = inside.getModifiers();
        if (Modifier.isPublic(flags) || Modifier.isProtected(flags) || !Modifier.isStatic(flags)) {
            fault(name(inside) + " is " + Modifier.toString(flags));
        }
        for (Method method : inside.getDeclaredMethods()) {
            if (publicNames.contains(method.getName())) {
                fault(name(inside) + " has a method with the public name " + method.getName());
            }
        }
    }

    private static void lookAtFields(Class<?> type) {
        for (Field field : type.getDeclaredFields()) {
            if (Modifier.isStatic(field.getModifiers()) && !Modifier.isFinal(field.getModifiers())) {
                fault(name(type) + "." + field.getName() + " is static and not final");
            }
        }
    }

    public static void main(String[] args) throws Exception {
        if (Modifier.toString(ThroneSale.class.getModifiers()).equals("public final")) {
            compare(faceInDocument(), faceOfClass());
        } else {
            fault("the class is not public final");
        }
        Set<String> publicNames = new TreeSet<>();
        for (Method method : ThroneSale.class.getMethods()) {
            publicNames.add(method.getName());
        }
        for (Method method : ThroneSale.class.getDeclaredMethods()) {
            if (isPrivate(method) && publicNames.contains(method.getName())) {
                fault("a private method has the public name " + method.getName());
            }
        }
        ArrayDeque<Class<?>> classes = new ArrayDeque<>();
        classes.add(ThroneSale.class);
        while (!classes.isEmpty()) {
            Class<?> type = classes.remove();
            lookAtFields(type);
            for (Class<?> inside : type.getDeclaredClasses()) {
                lookInside(inside, publicNames);
                classes.add(inside);
            }
        }
        System.out.println(wrong == 0 ? "the face is the document's" : wrong + " faults");
        if (wrong != 0) {
            System.exit(1);
        }
    }
}
