import java.lang.reflect.Constructor;
import java.lang.reflect.Field;
import java.lang.reflect.Method;
import java.lang.reflect.Modifier;
import java.util.ArrayList;
import java.util.List;

/** The public face: what the document's code block names, and nothing else that can be seen. */
public final class FaceTest {
    private static final String[] METHODS = {"int write(int)", "int wipe()", "int declare(int,int,int)",
        "int remove(int)", "int set(int,int,int)", "int move(int,int)", "int setSeparator(int)",
        "int rule(int,int,int)", "int undo()", "int told(int)", "int member(int,int)", "int fault()",
        "int readings()", "int occurrence(int,int)", "int value(int,int)", "int next()", "int normal(int)",
        "long orders(int)", "int order(long,int)", "long rank()", "int keep(int)", "int back(int)"};
    private static final int PUBLIC_CONSTANT = Modifier.PUBLIC | Modifier.STATIC | Modifier.FINAL;

    private static final Check check = new Check("FaceTest");

    public static void main(String[] args) {
        Class<?> face = PhraseReader.class;
        check.due("public and final", face.getModifiers(), Modifier.PUBLIC | Modifier.FINAL);
        check.same("its superclass", face.getSuperclass().getName(), "java.lang.Object");
        check.due("interfaces", face.getInterfaces().length, 0);
        constants(face);
        methods(face);
        Constructor<?>[] constructors = face.getDeclaredConstructors();
        check.due("constructors", constructors.length, 1);
        check.due("a public one", constructors[0].getModifiers(), Modifier.PUBLIC);
        check.due("without parameters", constructors[0].getParameterCount(), 0);
        privateNames(face);
        check.end();
    }

    private static void constants(Class<?> face) {
        check.due("BAD", PhraseReader.BAD, -1);
        check.due("STATE", PhraseReader.STATE, -2);
        check.due("FULL", PhraseReader.FULL, -3);
        check.due("NONE", PhraseReader.NONE, -9);
        List<String> names = new ArrayList<>();
        for (Field f : face.getDeclaredFields()) {
            if (!Modifier.isPrivate(f.getModifiers())) {
                check.due(f.getName() + " is a constant", f.getModifiers(), PUBLIC_CONSTANT);
                check.same(f.getName() + "'s type", f.getType().getName(), "int");
                names.add(f.getName());
            }
        }
        names.sort(null);
        check.same("constants", names.toString(), "[BAD, FULL, NONE, STATE]");
    }

    private static void methods(Class<?> face) {
        List<String> found = new ArrayList<>();
        for (Method m : face.getDeclaredMethods()) {
            if (!Modifier.isPrivate(m.getModifiers())) {
                check.due(m.getName() + " is public", m.getModifiers(), Modifier.PUBLIC);
                found.add(signature(m));
            }
        }
        List<String> due = new ArrayList<>(List.of(METHODS));
        found.sort(null);
        due.sort(null);
        check.same("methods", found.toString(), due.toString());
    }

    private static String signature(Method m) {
        StringBuilder s = new StringBuilder(m.getReturnType().getName()).append(' ').append(m.getName()).append('(');
        for (int i = 0; i < m.getParameterCount(); i++) {
            s.append(i == 0 ? "" : ",").append(m.getParameterTypes()[i].getName());
        }
        return s.append(')').toString();
    }

    /** No private method bears the name of a public one, in the class or inside it. */
    private static void privateNames(Class<?> face) {
        List<String> names = new ArrayList<>();
        for (String m : METHODS) {
            names.add(m.substring(m.indexOf(' ') + 1, m.indexOf('(')));
        }
        List<Class<?>> classes = new ArrayList<>(List.of(face.getDeclaredClasses()));
        for (Class<?> c : classes) {
            check.due(c.getName() + " is static", Modifier.isStatic(c.getModifiers()) ? 1 : 0, 1);
            check.due(c.getName() + " is not public", c.getModifiers() & (Modifier.PUBLIC | Modifier.PROTECTED), 0);
        }
        classes.add(face);
        for (Class<?> c : classes) {
            for (Method m : c.getDeclaredMethods()) {
                boolean twice = Modifier.isPrivate(m.getModifiers()) && names.contains(m.getName());
                check.due(c.getName() + "." + m.getName() + " bears a public name", twice ? 1 : 0, 0);
            }
        }
    }
}
