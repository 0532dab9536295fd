import java.lang.reflect.Constructor;
import java.lang.reflect.Field;
import java.lang.reflect.Method;
import java.lang.reflect.Modifier;
import java.util.HashSet;
import java.util.Set;
import java.util.TreeSet;

/** The public face of the document, and rules 1 and 2 of LANGUAGE.md. */
public final class FaceTest {
    private static final Due DUE = new Due();
    private static final String[] FACE = {
        "boolean create(int,int)", "int append(int,int,int)", "boolean edit(int,int,int)", "int remove(int)",
        "int make()", "boolean discard(int)", "int collect()", "int root(int)", "long piece(int,int)",
        "boolean damage(int,int,int,int,int)", "boolean seed(int)", "boolean alter(int,int,int)", "int scan(int)",
        "int extract(int)", "int counts(int)", "int output(int)", "boolean spoil(int,int)", "int unpack()",
        "int size(int)"};

    private FaceTest() {
    }

    public static void main(String[] args) {
        methods();
        constructorAndFields();
        classesInside();
        DUE.end();
    }

    private static void methods() {
        Set<String> open = new TreeSet<>();
        Set<String> openNames = new HashSet<>();
        for (Method m : SliceDepot.class.getDeclaredMethods()) {
            if (Modifier.isPublic(m.getModifiers())) {
                openNames.add(m.getName());
                StringBuilder line = new StringBuilder(m.getReturnType() + " " + m.getName() + "(");
                for (int i = 0; i < m.getParameterCount(); i++) {
                    line.append(i == 0 ? "" : ",").append(m.getParameterTypes()[i]);
                }
                open.add(line.append(")").toString());
            }
        }
        DUE.yes("the public methods are those of the document: " + open, open.equals(new TreeSet<>(Set.of(FACE))));
        for (Method m : SliceDepot.class.getDeclaredMethods()) {
            int how = m.getModifiers();
            boolean shown = Modifier.isPublic(how) || Modifier.isPrivate(how) || m.isSynthetic();
            DUE.yes(m.getName() + " is public or private", shown);
            DUE.no(m.getName() + " bears a public name", Modifier.isPrivate(how) && openNames.contains(m.getName()));
            DUE.yes(m.getName() + " has at most seven parameters", m.getParameterCount() <= 7);
        }
    }

    private static void constructorAndFields() {
        Constructor<?>[] all = SliceDepot.class.getDeclaredConstructors();
        DUE.is("constructors", all.length, 1);
        DUE.yes("the constructor is public", Modifier.isPublic(all[0].getModifiers()));
        DUE.is("its parameters", all[0].getParameterCount(), 3);
        for (Field f : SliceDepot.class.getDeclaredFields()) {
            DUE.yes(f.getName() + " is private", Modifier.isPrivate(f.getModifiers()) || f.isSynthetic());
        }
        DUE.yes("the class is final", Modifier.isFinal(SliceDepot.class.getModifiers()));
        DUE.yes("the class is public", Modifier.isPublic(SliceDepot.class.getModifiers()));
    }

    private static void classesInside() {
        Class<?>[] inside = SliceDepot.class.getDeclaredClasses();
        DUE.yes("at most twelve classes", inside.length + 1 <= 12);
        for (Class<?> c : inside) {
            DUE.yes(c + " is static", Modifier.isStatic(c.getModifiers()));
            DUE.no(c + " is public", Modifier.isPublic(c.getModifiers()));
            for (Field f : c.getDeclaredFields()) {
                int how = f.getModifiers();
                DUE.yes(f + " is no static state", !Modifier.isStatic(how) || Modifier.isFinal(how));
            }
        }
    }
}
