import java.io.IOException;
import java.lang.reflect.Constructor;
import java.lang.reflect.Field;
import java.lang.reflect.Method;
import java.lang.reflect.Modifier;
import java.nio.file.Files;
import java.nio.file.Path;
import java.util.NoSuchElementException;
import java.util.Set;
import java.util.TreeSet;
import java.util.regex.Matcher;
import java.util.regex.Pattern;

/** The public face is the document's, and the compiled class has nothing beside it that rule 1 of LANGUAGE.md rules out. */
public final class FaceTest {
    private static final Pattern METHOD = Pattern.compile("public (int|boolean) (\\w+)\\(([^)]*)\\)( throws NoSuchElementException)?;");

    private FaceTest() {
    }

    public static void main(String[] args) throws IOException {
        String face = face();
        Set<String> due = told(face);
        Set<String> got = new TreeSet<>();
        Set<String> names = new TreeSet<>();
        for (Method m : TreePeers.class.getDeclaredMethods()) {
            if (Modifier.isPublic(m.getModifiers())) {
                got.add(form(m));
                names.add(m.getName());
            } else {
                Check.is(m + " is private", Modifier.isPrivate(m.getModifiers()), true);
            }
        }
        Check.text("the face", got.toString(), due.toString());
        Check.is("public final", TreePeers.class.getModifiers(), Modifier.PUBLIC | Modifier.FINAL);
        Constructor<?>[] makers = TreePeers.class.getDeclaredConstructors();
        Check.is("one constructor", makers.length, 1);
        Check.is("public", Modifier.isPublic(makers[0].getModifiers()), true);
        Check.is("without parameters", makers[0].getParameterCount(), 0);
        Check.is("NONE is told", face.contains("public static final int NONE = -1;"), true);
        Check.is("NONE", TreePeers.NONE, -1);
        fields();
        inside(names);
        Check.end();
    }

    /** The document's public face, as it stands there. */
    private static String face() throws IOException {
        String doc = Files.readString(Path.of(System.getProperty("shared", "../shared")).resolve("DOC.md"));
        int from = doc.indexOf("```java", doc.indexOf("## The public face"));
        return doc.substring(from, doc.indexOf("```", from + 3));
    }

    private static Set<String> told(String face) {
        Set<String> told = new TreeSet<>();
        Matcher m = METHOD.matcher(face);
        while (m.find()) {
            String parameters = m.group(3).replaceAll("int \\w+", "int").replace(" ", "");
            told.add(m.group(1) + " " + m.group(2) + "(" + parameters + ")" + (m.group(4) == null ? "" : " throws"));
        }
        Check.is("methods that are told, and a line each for import, class, NONE, constructor, end",
            told.size() + 5, face.lines().filter(l -> !l.isBlank() && !l.startsWith("```")).count());
        return told;
    }

    private static String form(Method m) {
        StringBuilder s = new StringBuilder();
        s.append(m.getReturnType()).append(' ').append(m.getName()).append('(');
        for (int i = 0; i < m.getParameterCount(); i++) {
            s.append(i > 0 ? "," : "").append(m.getParameterTypes()[i]);
        }
        s.append(')');
        for (Class<?> e : m.getExceptionTypes()) {
            s.append(e == NoSuchElementException.class ? " throws" : " throws " + e);
        }
        return s.toString();
    }

    private static void fields() {
        int own = 0;
        for (Field f : TreePeers.class.getDeclaredFields()) {
            boolean isNone = f.getName().equals("NONE");
            Check.is(f + " is private", Modifier.isPrivate(f.getModifiers()), !isNone);
            if (Modifier.isStatic(f.getModifiers())) {
                Check.is(f + " is final", Modifier.isFinal(f.getModifiers()), true);
            } else {
                own++;
            }
        }
        Check.is("no more than 20 fields", own <= 20, true);
    }

    private static void inside(Set<String> names) {
        Class<?>[] classes = TreePeers.class.getDeclaredClasses();
        Check.is("no more than 12 classes", classes.length <= 12, true);
        for (Class<?> c : classes) {
            Check.is(c + " is private and static", c.getModifiers() & (Modifier.PRIVATE | Modifier.STATIC), Modifier.PRIVATE | Modifier.STATIC);
            int own = 0;
            for (Field f : c.getDeclaredFields()) {
                Check.is(f + " is not static", Modifier.isStatic(f.getModifiers()), false);
                own++;
            }
            Check.is(c + " has no more than 20 fields", own <= 20, true);
            for (Method m : c.getDeclaredMethods()) {
                Check.is(m + " bears no public name", names.contains(m.getName()), false);
                Check.is(m + " has no more than 7 parameters", m.getParameterCount() <= 7, true);
            }
        }
    }
}
