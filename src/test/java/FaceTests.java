import java.io.IOException;
import java.lang.reflect.Executable;
import java.lang.reflect.Field;
import java.lang.reflect.Member;
import java.lang.reflect.Method;
import java.lang.reflect.Modifier;
import java.nio.file.Files;
import java.nio.file.Path;
import java.util.HashSet;
import java.util.Set;

/** The class has the face of the document, word for word, and no other member that can be seen from outside. */
public final class FaceTests {
    private static int wrong;

    private static void holds(boolean right, String words) {
        if (!right) {
            wrong++;
            System.out.println("not so: " + words);
        }
    }

    public static void main(String[] args) throws IOException {
        String face = faceOf(Files.readString(Path.of("../shared/DOC.md")));
        String source = Files.readString(Path.of("src/main/java/LoveLocks.java"));
        int methods = 0;
        for (String line : face.split("\n")) {
            String told = line.strip();
            if (!told.isEmpty() && !told.equals("}")) {
                methods += told.contains("(") ? 1 : 0;
                String written = told.contains("(") ? told.replace(";", " {") : told;
                holds(source.contains(written + "\n"), "the class says " + written);
            }
        }
        nothingElseIsSeen(methods);
        theConstants();
        theClass();
        System.out.println(wrong == 0 ? "the face is as told, " + methods + " calls" : wrong + " faults of the face");
        if (wrong != 0) {
            System.exit(1);
        }
    }

    private static String faceOf(String document) {
        int from = document.indexOf("```java\n") + "```java\n".length();
        return document.substring(from, document.indexOf("```", from));
    }

    /** The calls of the face are its methods and its constructor. */
    private static void nothingElseIsSeen(int calls) {
        int seen = 0;
        Set<String> names = new HashSet<>();
        for (Method m : LoveLocks.class.getDeclaredMethods()) {
            seen += isSeen(m) ? 1 : 0;
            holds(!isSeen(m) || !Modifier.isStatic(m.getModifiers()), m.getName() + " is called on an object");
            holds(isSeen(m) || Modifier.isPrivate(m.getModifiers()), m.getName() + " is public or private");
            holds(names.add(m.getName()), "one method is called " + m.getName());
            throwsNothing(m);
        }
        for (Executable c : LoveLocks.class.getDeclaredConstructors()) {
            seen++;
            holds(isSeen(c) && c.getParameterCount() == 0, "the constructor is public and takes nothing");
            throwsNothing(c);
        }
        holds(seen == calls, "there are " + calls + " calls, not " + seen);
        for (Class<?> c : LoveLocks.class.getDeclaredClasses()) {
            int is = c.getModifiers();
            holds(Modifier.isStatic(is) && !Modifier.isPublic(is) && !Modifier.isProtected(is), c + " is inside");
        }
    }

    private static boolean isSeen(Member m) {
        return Modifier.isPublic(m.getModifiers());
    }

    private static void throwsNothing(Executable call) {
        holds(call.getExceptionTypes().length == 0, call.getName() + " names no exception");
    }

    private static void theConstants() {
        String[] names = {"BAD", "NOT", "FULL", "NONE", "NULL", "CAST", "INDEX", "SIZE"};
        int[] values = {LoveLocks.BAD, LoveLocks.NOT, LoveLocks.FULL, LoveLocks.NONE, LoveLocks.NULL, LoveLocks.CAST,
            LoveLocks.INDEX, LoveLocks.SIZE};
        int[] told = {-1, -2, -3, -4, -11, -12, -13, -14};
        Set<String> public8 = new HashSet<>();
        for (int k = 0; k < names.length; k++) {
            public8.add(names[k]);
            holds(values[k] == told[k], names[k] + " is " + told[k]);
        }
        for (Field f : LoveLocks.class.getDeclaredFields()) {
            int is = f.getModifiers();
            if (isSeen(f)) {
                holds(public8.remove(f.getName()), f.getName() + " is a constant of the document");
                holds(Modifier.isStatic(is) && Modifier.isFinal(is) && f.getType() == int.class, f + " is a constant");
            } else {
                holds(Modifier.isPrivate(is), f.getName() + " is private");
            }
        }
        holds(public8.isEmpty(), "there are constants " + public8);
    }

    private static void theClass() {
        int is = LoveLocks.class.getModifiers();
        holds(Modifier.isPublic(is) && Modifier.isFinal(is), "the class is public and final");
        holds(LoveLocks.class.getPackageName().isEmpty(), "the class has no package");
        holds(LoveLocks.class.getSuperclass() == Object.class, "the class is of no other class");
        holds(LoveLocks.class.getInterfaces().length == 0, "the class has no interface");
    }
}
