import java.io.File;
import java.lang.reflect.Method;
import java.lang.reflect.Modifier;
import java.nio.file.Files;
import java.nio.file.Path;
import java.util.Set;
import java.util.TreeSet;
import java.util.regex.Matcher;
import java.util.regex.Pattern;

/** What README.md says of the class and of its tests is so. */
public final class ReadmeTest {
    private static String readme;

    public static void main(String[] args) throws Exception {
        readme = Files.readString(Path.of("README.md"));
        exampleAnswersAsWritten();
        callsAreThoseOfTheFace();
        classesAreThoseInside();
        testsAreThoseOfTheProject();
        filesAreThere();
        Check.end();
    }

    /** Each line of the example is asked, and answers the number ahead of its remark. */
    private static void exampleAnswersAsWritten() throws Exception {
        int begin = readme.indexOf("```java");
        String example = readme.substring(begin, readme.indexOf("```", begin + 3));
        LostMuseum x = new LostMuseum();
        int asked = 0;
        Matcher m = Pattern.compile("^x\\.(\\w+)\\((.*?)\\);\\s+// (-?\\d+)(.*)$", Pattern.MULTILINE).matcher(example);
        while (m.find()) {
            String[] words = m.group(2).isEmpty() ? new String[0] : m.group(2).split(", ");
            Object[] values = new Object[words.length];
            Class<?>[] kinds = new Class<?>[words.length];
            for (int i = 0; i < words.length; i++) {
                values[i] = Long.decode(words[i]).intValue();
                kinds[i] = int.class;
            }
            Object got = LostMuseum.class.getMethod(m.group(1), kinds).invoke(x, values);
            Check.same("README: " + m.group(), ((Number) got).longValue(), Long.parseLong(m.group(3)));
            if (m.group(1).equals("feed")) {
                textIsFed(m.group(4), values);
            }
            asked++;
        }
        int lines = (int) example.lines().filter(l -> l.startsWith("x.")).count();
        Check.same("README: lines of the example that were asked", asked, lines);
        Check.holds("README: the example has calls", lines > 10);
    }

    private static void textIsFed(String remark, Object[] numbers) {
        String text = remark.substring(remark.indexOf('"') + 1, remark.lastIndexOf('"'));
        for (int i = 0; i < numbers.length; i++) {
            Check.same("README: number " + i + " of " + text, ((Integer) numbers[i]).intValue(), Check.number(text, 4 * i));
        }
    }

    private static void callsAreThoseOfTheFace() {
        Set<String> face = new TreeSet<>();
        for (Method f : LostMuseum.class.getDeclaredMethods()) {
            if (Modifier.isPublic(f.getModifiers())) {
                face.add(f.getName());
            }
        }
        Set<String> told = new TreeSet<>();
        int begin = readme.indexOf("- Texts:");
        told.addAll(marked(readme.substring(begin, readme.indexOf("Sets of rooms", begin)), "[a-z]+"));
        Check.holds("README: calls are " + told + ", the face has " + face, told.equals(face));
    }

    private static void classesAreThoseInside() {
        Set<String> inside = new TreeSet<>();
        for (Class<?> c : LostMuseum.class.getDeclaredClasses()) {
            inside.add(c.getSimpleName());
        }
        int begin = readme.indexOf("## How it is built");
        Set<String> told = marked(readme.substring(begin, readme.indexOf("## Tests")), "[A-Z]\\w+");
        Check.holds("README: classes are " + told + ", inside are " + inside, told.equals(inside));
    }

    private static void testsAreThoseOfTheProject() {
        Set<String> there = new TreeSet<>();
        for (String name : new File("src/test/java").list()) {
            if (name.endsWith("Test.java")) {
                there.add(name.replace(".java", ""));
            }
        }
        Set<String> told = marked(readme.substring(readme.indexOf("## Tests")), "\\w+Test");
        Check.holds("README: tests are " + told + ", there are " + there, told.equals(there));
    }

    private static void filesAreThere() {
        for (String name : marked(readme, "[\\w./]+\\.(java|md)")) {
            boolean beside = name.startsWith("support/");
            Check.holds("README: " + name, new File(beside ? "src/test/java/" + name : name).isFile());
        }
        Check.holds("README: .ci/run", readme.contains(".ci/run") && new File(".ci/run").canExecute());
    }

    /** The names of a form that stand between two marks. */
    private static Set<String> marked(String text, String form) {
        Set<String> found = new TreeSet<>();
        Matcher m = Pattern.compile("`(" + form + ")`").matcher(text);
        while (m.find()) {
            found.add(m.group(1));
        }
        return found;
    }
}
