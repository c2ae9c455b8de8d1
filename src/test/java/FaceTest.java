import java.lang.reflect.Constructor;
import java.lang.reflect.Field;
import java.lang.reflect.Method;
import java.lang.reflect.Modifier;
import java.util.TreeSet;

/** The class shows the document's face and nothing else, and keeps the rules of LANGUAGE.md that reflection can see. */
public final class FaceTest {
    private static final String[] FACE = {
        "field int BAD_ARG", "field int FULL", "field int MISMATCH", "field int NONE", "field int TOO_FEW",
        "constructor 0",
        "int make(int,int,int,int)", "int get(int,int,int)", "int put(int,int,int,int)", "int format(int,int)",
        "int room(int)", "int filled(int)", "int length(int,int)", "int pattern(int,int)", "int turn(int)",
        "boolean same(int,int)", "int digest(int)", "int array(int,int,int)", "int constant(int)", "int negate()",
        "int join(int)", "void scrap()", "int span(int)", "int assign(int,int,int,int)"
    };

    public static void main(String[] args) {
        TreeSet<String> want = new TreeSet<>();
        for (String line : FACE) {
            want.add(line);
        }
        TreeSet<String> missing = new TreeSet<>(want);
        TreeSet<String> seen = visibleMembers();
        missing.removeAll(seen);
        seen.removeAll(want);
        Check.due("members that are missing: " + missing, missing.size(), 0);
        Check.due("members that are too many: " + seen, seen.size(), 0);
        int classModifiers = SparseFormulas.class.getModifiers();
        Check.due("public final class", classModifiers & (Modifier.PUBLIC | Modifier.FINAL),
            Modifier.PUBLIC | Modifier.FINAL);
        Check.due("nested classes", SparseFormulas.class.getDeclaredClasses().length, 0);
        privateNames();
        constants();
        Check.end();
    }

    private static TreeSet<String> visibleMembers() {
        TreeSet<String> seen = new TreeSet<>();
        for (Field f : SparseFormulas.class.getDeclaredFields()) {
            if (!Modifier.isPrivate(f.getModifiers())) {
                seen.add("field " + f.getType() + " " + f.getName());
            }
        }
        for (Constructor<?> c : SparseFormulas.class.getDeclaredConstructors()) {
            seen.add("constructor " + c.getParameterCount());
        }
        for (Method m : SparseFormulas.class.getDeclaredMethods()) {
            if (!Modifier.isPrivate(m.getModifiers())) {
                seen.add(signature(m));
            }
        }
        return seen;
    }

    private static String signature(Method m) {
        StringBuilder text = new StringBuilder(m.getReturnType() + " " + m.getName() + "(");
        String gap = "";
        for (Class<?> type : m.getParameterTypes()) {
            text.append(gap).append(type);
            gap = ",";
        }
        return text.append(")").toString();
    }

    private static void privateNames() {
        TreeSet<String> open = new TreeSet<>();
        for (Method m : SparseFormulas.class.getDeclaredMethods()) {
            if (Modifier.isPublic(m.getModifiers())) {
                open.add(m.getName());
            }
        }
        int objectFields = 0;
        for (Field f : SparseFormulas.class.getDeclaredFields()) {
            objectFields += Modifier.isStatic(f.getModifiers()) ? 0 : 1;
        }
        for (Method m : SparseFormulas.class.getDeclaredMethods()) {
            boolean hidden = Modifier.isPrivate(m.getModifiers());
            Check.due("private method with a public name: " + m.getName(), hidden && open.contains(m.getName()), false);
            Check.due("parameters at most 7: " + m.getName(), m.getParameterCount() <= 7, true);
        }
        Check.due("at most 40 fields", objectFields <= 40, true);
    }

    private static void constants() {
        Check.due("BAD_ARG", SparseFormulas.BAD_ARG, -1000000001);
        Check.due("FULL", SparseFormulas.FULL, -1000000002);
        Check.due("TOO_FEW", SparseFormulas.TOO_FEW, -1000000003);
        Check.due("NONE", SparseFormulas.NONE, -1000000004);
        Check.due("MISMATCH", SparseFormulas.MISMATCH, -1000000005);
    }
}
