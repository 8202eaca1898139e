import java.lang.reflect.Constructor;
import java.lang.reflect.Field;
import java.lang.reflect.Member;
import java.lang.reflect.Method;
import java.lang.reflect.Modifier;
import java.util.Set;
import java.util.TreeSet;

/** The constants and the public face: all of the document's members, and no other visible one. */
public final class FaceTest {
    private static final String[] METHODS = {
        "int make(int,int)", "int copy(int,int)", "int put(int,int,int,int)", "int remove(int,int,int)",
        "int merge(int,int,int,int)", "int value(int,int)", "int key(int,int)", "int insert(int,int,int,int)",
        "int cut(int,int,int,int)", "int part(int,int,int,int)", "int join(int,int,int)", "int turn(int,int)",
        "int at(int,int)", "long sum(int,int,int)", "int convert(int,int,int)", "int about(int,int)",
        "boolean same(int,int)",
    };
    private static final String[] CONSTANTS = {"BAD", "KIND", "INDEX", "FULL", "NOTHING", "MAP", "LIST"};
    private static final Checks c = new Checks();

    public static void main(String[] args) {
        c.promise("the public face");
        constants();
        c.due("public final class", PersistentShelf.class.getModifiers(), Modifier.PUBLIC | Modifier.FINAL);
        sameNames("methods", visibleMethods(), Set.of(METHODS));
        sameNames("constants", visibleFields(), Set.of(CONSTANTS));
        sameNames("constructors", visibleConstructors(), Set.of("()"));
        c.due("nested classes", PersistentShelf.class.getDeclaredClasses().length, 0);
        noPrivateNamesake();
        c.end();
    }

    private static void constants() {
        c.due("BAD", PersistentShelf.BAD, -1);
        c.due("KIND", PersistentShelf.KIND, -2);
        c.due("INDEX", PersistentShelf.INDEX, -3);
        c.due("FULL", PersistentShelf.FULL, -4);
        c.due("NOTHING", PersistentShelf.NOTHING, 0);
        c.due("MAP", PersistentShelf.MAP, 1);
        c.due("LIST", PersistentShelf.LIST, 2);
    }

    private static Set<String> visibleMethods() {
        Set<String> found = new TreeSet<>();
        for (Method m : PersistentShelf.class.getDeclaredMethods()) {
            if (isVisible(m)) {
                c.due(m.getName() + " is public and no more", m.getModifiers(), Modifier.PUBLIC);
                found.add(m.getReturnType() + " " + m.getName() + parameters(m.getParameterTypes()));
            }
        }
        return found;
    }

    private static Set<String> visibleFields() {
        Set<String> found = new TreeSet<>();
        for (Field f : PersistentShelf.class.getDeclaredFields()) {
            if (isVisible(f)) {
                c.due(f.getName() + " is a constant", f.getModifiers(), Modifier.PUBLIC | Modifier.STATIC | Modifier.FINAL);
                c.due(f.getName() + " is an int", f.getType() == int.class, true);
                found.add(f.getName());
            }
        }
        return found;
    }

    private static Set<String> visibleConstructors() {
        Set<String> found = new TreeSet<>();
        for (Constructor<?> k : PersistentShelf.class.getDeclaredConstructors()) {
            c.due("the constructor is public", k.getModifiers(), Modifier.PUBLIC);
            found.add(parameters(k.getParameterTypes()));
        }
        return found;
    }

    private static void noPrivateNamesake() {
        Set<String> names = new TreeSet<>();
        for (String m : METHODS) {
            names.add(m.substring(m.indexOf(' ') + 1, m.indexOf('(')));
        }
        for (Method m : PersistentShelf.class.getDeclaredMethods()) {
            c.due(m.getName() + " is a private namesake", !isVisible(m) && names.contains(m.getName()), false);
        }
    }

    private static boolean isVisible(Member m) {
        return !Modifier.isPrivate(m.getModifiers());
    }

    private static String parameters(Class<?>[] types) {
        StringBuilder text = new StringBuilder("(");
        for (int n = 0; n < types.length; n++) {
            text.append(n == 0 ? "" : ",").append(types[n]);
        }
        return text.append(")").toString();
    }

    private static void sameNames(String what, Set<String> found, Set<String> due) {
        boolean alike = found.equals(due);
        if (!alike) {
            System.out.println(what + " found: " + found);
        }
        c.due(what + " of the document", alike, true);
    }
}
