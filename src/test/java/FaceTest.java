import java.io.IOException;
import java.lang.reflect.Constructor;
import java.lang.reflect.Field;
import java.lang.reflect.Method;
import java.lang.reflect.Modifier;
import java.util.Arrays;
import java.util.NoSuchElementException;
import java.util.Set;
import java.util.TreeSet;

/** The document's public face and those rules of LANGUAGE.md that the compiled class can tell. */
public final class FaceTest {
    private static final String[] FACE = {
        "int feed(int,int,int,int,int)", "boolean end(int)", "int cluster()", "int fault()", "int faultLine()", "int key(int,int)",
        "int digest(int) throws", "int peer(int,int)", "int root(int) throws", "int entry(int,int,int) throws",
        "int node(int,int,int) throws", "int now(int)", "int put(int,int,int)", "int drop(int,int)", "int pull(int,int)",
        "int cut(int,int)", "int heal(int,int)", "int undo()", "int visits(int,int)", "int differs(int,int)", "int offers(int,int)",
        "int offerAt(int)", "int fresh(int,int,int)", "int pulls(int,int)", "int path(int,int)", "int mean(int,int) throws",
        "int part(int,int,int) throws", "int tag(int)", "int byteAt(int)", "int drawn(int,int)", "int refused(int)",
        "int odds(int,int)", "int book(int)", "int told(int)", "int sentence()", "int said(int)", "boolean image(int)",
        "boolean restore(int)", "int count(int)"};

    private FaceTest() {
    }

    public static void main(String[] args) throws IOException {
        Set<String> due = new TreeSet<>(Arrays.asList(FACE));
        Set<String> got = new TreeSet<>();
        Set<String> names = new TreeSet<>();
        for (Method m : TreePeers.class.getDeclaredMethods()) {
            if (Modifier.isPublic(m.getModifiers())) {
                got.add(form(m));
                names.add(m.getName());
            } else {
                Check.is(m + " is private", Modifier.isPrivate(m.getModifiers()), true);
            }
        }
        Check.text("the face", got.toString(), due.toString());
        Check.is("public final", TreePeers.class.getModifiers(), Modifier.PUBLIC | Modifier.FINAL);
        Constructor<?>[] makers = TreePeers.class.getDeclaredConstructors();
        Check.is("one constructor", makers.length, 1);
        Check.is("public", Modifier.isPublic(makers[0].getModifiers()), true);
        Check.is("without parameters", makers[0].getParameterCount(), 0);
        Check.is("NONE", TreePeers.NONE, -1);
        fields();
        inside(names);
        Check.end();
    }

    private static String form(Method m) {
        StringBuilder s = new StringBuilder();
        s.append(m.getReturnType()).append(' ').append(m.getName()).append('(');
        for (int i = 0; i < m.getParameterCount(); i++) {
            s.append(i > 0 ? "," : "").append(m.getParameterTypes()[i]);
        }
        s.append(')');
        for (Class<?> e : m.getExceptionTypes()) {
            s.append(e == NoSuchElementException.class ? " throws" : " throws " + e);
        }
        return s.toString();
    }

    private static void fields() {
        int own = 0;
        for (Field f : TreePeers.class.getDeclaredFields()) {
            boolean isNone = f.getName().equals("NONE");
            Check.is(f + " is private", Modifier.isPrivate(f.getModifiers()), !isNone);
            if (Modifier.isStatic(f.getModifiers())) {
                Check.is(f + " is final", Modifier.isFinal(f.getModifiers()), true);
            } else {
                own++;
            }
        }
        Check.is("no more than 20 fields", own <= 20, true);
    }

    private static void inside(Set<String> names) {
        Class<?>[] classes = TreePeers.class.getDeclaredClasses();
        Check.is("no more than 12 classes", classes.length <= 12, true);
        for (Class<?> c : classes) {
            Check.is(c + " is private and static", c.getModifiers() & (Modifier.PRIVATE | Modifier.STATIC), Modifier.PRIVATE | Modifier.STATIC);
            int own = 0;
            for (Field f : c.getDeclaredFields()) {
                Check.is(f + " is not static", Modifier.isStatic(f.getModifiers()), false);
                own++;
            }
            Check.is(c + " has no more than 20 fields", own <= 20, true);
            for (Method m : c.getDeclaredMethods()) {
                Check.is(m + " bears no public name", names.contains(m.getName()), false);
                Check.is(m + " has no more than 7 parameters", m.getParameterCount() <= 7, true);
            }
        }
    }
}
