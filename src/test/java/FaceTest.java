import java.lang.reflect.Constructor;
import java.lang.reflect.Field;
import java.lang.reflect.Member;
import java.lang.reflect.Method;
import java.lang.reflect.Modifier;
import java.util.Arrays;
import java.util.HashSet;
import java.util.Set;

/** The document's face and constants, and what LANGUAGE.md says of members and static fields (rules 1, 3, 5). */
public final class FaceTest {
    private static final String[] FACE = {"field(int)", "term(int,int,int)", "at(int,int)", "mix(int,int,int,int,int)",
        "times(int,int,int)", "inverse(int,int)", "weigh(int,int)", "shift(int,int,int)", "feed(int,int)", "text(int)",
        "zeros(int)", "choose(int)", "lift(int,int)", "order(int)", "told(int)", "row(int,int)", "entry(int,int,int)",
        "rest(int,int)", "comes(int,int)", "relates(int)", "guess(int,int,int,int,int)", "certificate(int,int)",
        "proof(int,int,int)", "test(int,int)", "toldOn(int,int)", "strike(int)", "listed(int)", "sheet(int,int,int)",
        "put(int,int,int)", "get(int,int)", "move(int,int,int,int,int)", "loads(int,int)", "spills(int,int)", "count(int)"};

    public static void main(String[] args) throws Exception {
        Check.due("BAD", HiddenRelations.BAD, -1);
        Check.due("NOT", HiddenRelations.NOT, -2);
        Check.due("NONE", HiddenRelations.NONE, -3);
        Check.due("FULL", HiddenRelations.FULL, -4);
        face();
        inside();
        Check.ending("FaceTest");
    }

    private static String signature(Method m) {
        StringBuilder s = new StringBuilder(m.getName()).append('(');
        for (Class<?> p : m.getParameterTypes()) {
            s.append(s.charAt(s.length() - 1) == '(' ? "" : ",").append(p.getName());
        }
        return s.append(')').toString();
    }

    private static void face() throws Exception {
        Class<?> c = HiddenRelations.class;
        Check.due("public and final", c.getModifiers(), Modifier.PUBLIC | Modifier.FINAL);
        Set<String> face = new HashSet<>(Arrays.asList(FACE));
        int there = 0;
        for (Method m : c.getDeclaredMethods()) {
            if (Modifier.isPrivate(m.getModifiers())) {
                Check.holds("a private method bears a public name: " + m, !isFaceName(m.getName()));
            } else {
                there++;
                Check.holds("not in the face: " + m, face.contains(signature(m)) && m.getReturnType() == int.class);
                Check.due("modifiers of " + m, m.getModifiers(), Modifier.PUBLIC);
                Check.due("throws of " + m, m.getExceptionTypes().length, m.getName().equals("get") ? 3 : 0);
            }
        }
        Check.due("methods of the face", there, FACE.length);
        Constructor<?>[] made = c.getDeclaredConstructors();
        Check.due("constructors", made.length, 1);
        Check.due("a public one", made[0].getModifiers(), Modifier.PUBLIC);
        int constants = 0;
        for (Field f : c.getDeclaredFields()) {
            constants += Modifier.isPrivate(f.getModifiers()) ? 0 : 1;
        }
        Check.due("constants", constants, 4);
    }

    private static boolean isFaceName(String name) {
        for (String s : FACE) {
            if (s.startsWith(name + "(")) {
                return true;
            }
        }
        return false;
    }

    private static void inside() {
        Class<?>[] classes = Arrays.copyOf(HiddenRelations.class.getDeclaredClasses(), HiddenRelations.class.getDeclaredClasses().length + 1);
        classes[classes.length - 1] = HiddenRelations.class;
        Check.holds("some twelve classes", classes.length <= 12);
        for (Class<?> c : classes) {
            Check.holds("static: " + c, c == HiddenRelations.class || Modifier.isStatic(c.getModifiers()));
            int own = 0;
            for (Field f : c.getDeclaredFields()) {
                if (Modifier.isStatic(f.getModifiers())) {
                    Check.holds("a static field that isn't final: " + f, Modifier.isFinal(f.getModifiers()));
                    Class<?> t = f.getType();
                    Check.holds("a static field that isn't a constant number: " + f, t == int.class || t == long.class);
                } else {
                    own++;
                    Check.holds("an enum's field, static state if it changes: " + f, !c.isEnum());
                }
            }
            Check.holds("some twenty fields: " + c, own <= 20);
            for (Member m : c.getDeclaredMethods()) {
                if (c != HiddenRelations.class) {
                    Check.holds("a public name inside: " + m, !isFaceName(m.getName()));
                }
            }
        }
    }
}
