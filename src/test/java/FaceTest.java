import java.lang.reflect.Array;
import java.lang.reflect.Constructor;
import java.lang.reflect.Field;
import java.lang.reflect.Method;
import java.lang.reflect.Modifier;
import java.nio.file.Files;
import java.nio.file.Path;
import java.util.Collections;
import java.util.HashSet;
import java.util.IdentityHashMap;
import java.util.List;
import java.util.Set;
import java.util.TreeSet;
import java.util.regex.Matcher;
import java.util.regex.Pattern;

/** The face as the document writes it, and the rules of LANGUAGE.md that can be read off the class. */
public final class FaceTest {
    private static final Path DOCUMENT = Path.of("../shared/DOC.md");
    private static final Path SOURCE = Path.of("src/main/java/LostMuseum.java");

    public static void main(String[] args) throws Exception {
        methodsAreThoseOfTheDocument();
        nothingElseIsVisible();
        classesAreSmall();
        sourceKeepsToTheLanguage();
        libraryIsThatOfTheRules();
        callsMakeNoObjects();
        anObjectIsSmall();
        Check.end();
    }

    private static void methodsAreThoseOfTheDocument() throws Exception {
        Set<String> due = new TreeSet<>();
        Matcher m = Pattern.compile("^    public (int|long|boolean) (\\w+)\\((.*?)\\)( throws (.*))?;$", Pattern.MULTILINE)
            .matcher(Files.readString(DOCUMENT));
        while (m.find()) {
            String kinds = m.group(3).replaceAll("(\\w+) \\w+", "$1");
            due.add(m.group(1) + " " + m.group(2) + "(" + kinds + ")" + (m.group(5) == null ? "" : " " + m.group(5)));
        }
        Set<String> got = new TreeSet<>();
        for (Method f : LostMuseum.class.getDeclaredMethods()) {
            if (!Modifier.isPrivate(f.getModifiers())) {
                got.add(told(f));
            }
        }
        Check.same("methods of the face", got.size(), 41);
        Check.holds("the face is " + got + ", due is " + due, got.equals(due));
    }

    private static String told(Method f) {
        StringBuilder b = new StringBuilder(f.getReturnType().getName()).append(' ').append(f.getName()).append('(');
        for (int i = 0; i < f.getParameterCount(); i++) {
            b.append(i == 0 ? "" : ", ").append(f.getParameterTypes()[i].getName());
        }
        b.append(')');
        for (int i = 0; i < f.getExceptionTypes().length; i++) {
            b.append(i == 0 ? " " : ", ").append(f.getExceptionTypes()[i].getSimpleName());
        }
        return b.toString();
    }

    private static void nothingElseIsVisible() throws Exception {
        Class<?> c = LostMuseum.class;
        Check.holds("public and final", Modifier.isPublic(c.getModifiers()) && Modifier.isFinal(c.getModifiers()));
        Constructor<?>[] made = c.getDeclaredConstructors();
        Check.holds("one public constructor", made.length == 1 && Modifier.isPublic(made[0].getModifiers())
            && made[0].getParameterCount() == 0);
        for (Field f : c.getDeclaredFields()) {
            boolean isNone = f.getName().equals("NONE");
            Check.holds(f + " is private", Modifier.isPrivate(f.getModifiers()) || isNone);
        }
        Check.same("NONE", LostMuseum.NONE, -1);
    }

    private static void classesAreSmall() {
        Class<?>[] inside = LostMuseum.class.getDeclaredClasses();
        Check.holds("twelve classes at most", inside.length + 1 <= 12);
        Set<String> face = new HashSet<>();
        for (Method f : LostMuseum.class.getDeclaredMethods()) {
            if (Modifier.isPublic(f.getModifiers())) {
                face.add(f.getName());
            }
        }
        checkClass(LostMuseum.class, face);
        for (Class<?> c : inside) {
            Check.holds(c + " is static", Modifier.isStatic(c.getModifiers()));
            Check.holds(c + " is not public", !Modifier.isPublic(c.getModifiers()) && !Modifier.isProtected(c.getModifiers()));
            checkClass(c, face);
        }
    }

    private static void checkClass(Class<?> c, Set<String> face) {
        int fields = 0;
        for (Field f : c.getDeclaredFields()) {
            boolean isStatic = Modifier.isStatic(f.getModifiers());
            fields += isStatic ? 0 : 1;
            Check.holds(f + " is final, if static", !isStatic || Modifier.isFinal(f.getModifiers()));
        }
        Check.holds(c + " has twenty fields at most", fields <= 20);
        for (Method f : c.getDeclaredMethods()) {
            Check.holds(f + " takes seven at most", f.getParameterCount() <= 7);
            boolean ofFace = c == LostMuseum.class && Modifier.isPublic(f.getModifiers());
            Check.holds(f + " bears no name of the face", ofFace || !face.contains(f.getName()));
        }
    }

    private static void sourceKeepsToTheLanguage() throws Exception {
        List<String> lines = Files.readAllLines(SOURCE);
        int begun = -1;
        for (int i = 0; i < lines.size(); i++) {
            String line = lines.get(i).replaceAll("//.*|/\\*\\*.*?\\*/", "");
            for (String no : new String[] {"->", "::", "try ", "catch", "finally", "synchronized", "assert", "package ",
                "Exact(", "toString", "hashCode", "System.out", "Object ", "protected "}) {
                Check.holds("line " + (i + 1) + " has no " + no, !line.contains(no));
            }
            Check.holds("line " + (i + 1) + " imports nothing else", !line.startsWith("import ")
                || line.equals("import java.util.NoSuchElementException;"));
            boolean method = line.matches(" {4,8}\\S.*[)\\w] \\{") && !line.contains(" class ");
            if (method) {
                begun = i;
            }
            if (line.matches(" {4,8}\\}") && begun >= 0) {
                Check.holds("the method of line " + (begun + 1) + " is short", i - begun <= 60);
            }
        }
    }

    /** Rule 4: of what the rules list, the class uses these alone. */
    private static void libraryIsThatOfTheRules() throws Exception {
        Set<String> listed = Set.of("java/lang/Object.<init>", "java/lang/Math.min", "java/lang/Math.max",
            "java/lang/Integer.bitCount", "java/lang/System.arraycopy", "java/lang/String.length", "java/lang/String.charAt",
            "java/lang/IllegalArgumentException.<init>", "java/util/NoSuchElementException.<init>");
        Set<String> used = new TreeSet<>(Pool.usedBy(LostMuseum.class));
        for (Class<?> c : LostMuseum.class.getDeclaredClasses()) {
            used.addAll(Pool.usedBy(c));
        }
        Check.holds("the library that is used can be read", used.contains("java/lang/Integer.bitCount"));
        for (String one : used) {
            Check.holds(one + " is of the library of the rules", listed.contains(one));
        }
    }

    /** Rule 12: objects are made for fields and in constructors alone, but for exceptions. */
    private static void callsMakeNoObjects() throws Exception {
        Pattern method = Pattern.compile("^ {4,8}(?!return|throw)[\\w\\[\\] ]*?\\b(\\w+)\\(.*");
        Pattern field = Pattern.compile("^ {4,8}(private )?final [\\w\\[\\]]+ \\w+ = new .*;$");
        String inside = "";
        int made = 0;
        int number = 0;
        for (String line : Files.readAllLines(SOURCE)) {
            number++;
            Matcher m = method.matcher(line);
            if (m.matches() && !line.endsWith(";")) {
                inside = m.group(1);
            }
            if (line.contains(" new ") && !line.contains("throw new ") && !line.trim().startsWith("/")) {
                made++;
                boolean constructs = !inside.isEmpty() && Character.isUpperCase(inside.charAt(0));
                Check.holds("line " + number + " makes nothing in a call", constructs || field.matcher(line).matches());
            }
        }
        Check.holds("lines that make objects can be read", made > 40);
    }

    /** A run's room is some 600,000 objects and 7.3 million fields and elements: one object takes little of it. */
    private static void anObjectIsSmall() throws Exception {
        Set<Object> found = Collections.newSetFromMap(new IdentityHashMap<>());
        long parts = measure(new LostMuseum(), found);
        Check.holds("an object is " + found.size() + " objects", found.size() <= 400);
        Check.holds("an object has " + parts + " fields and elements", parts <= 12000);
    }

    /** How many fields and elements an object has with all that it holds. */
    private static long measure(Object o, Set<Object> found) throws Exception {
        if (o == null || !found.add(o)) {
            return 0;
        }
        long parts = 0;
        if (o.getClass().isArray()) {
            parts += Array.getLength(o);
            for (int i = 0; o instanceof Object[] && i < Array.getLength(o); i++) {
                parts += measure(Array.get(o, i), found);
            }
            return parts;
        }
        for (Field f : o.getClass().getDeclaredFields()) {
            if (!Modifier.isStatic(f.getModifiers())) {
                parts++;
                f.setAccessible(true);
                parts += f.getType().isPrimitive() ? 0 : measure(f.get(o), found);
            }
        }
        return parts;
    }
}
