import java.lang.reflect.Constructor;
import java.lang.reflect.Field;
import java.lang.reflect.Method;
import java.lang.reflect.Modifier;
import java.util.Set;
import java.util.TreeSet;

/** The members of the class that can be seen from outside are those of the document's face and no others. */
public final class FaceTest {
    private static final String PLACE = "TwinTables.";
    private static final String[] METHODS = {
        "public int TwinTables.blocks()",
        "public int TwinTables.peek(int,int)",
        "public boolean TwinTables.poke(int,int,int)",
        "public void TwinTables.format(long)",
        "public boolean TwinTables.seal(int)",
        "public boolean TwinTables.guard()",
        "public int TwinTables.fault(int)",
        "public int TwinTables.source()",
        "public int TwinTables.make(int,int,long,long,long)",
        "public boolean TwinTables.remove(int)",
        "public boolean TwinTables.rename(int,int,char)",
        "public boolean TwinTables.move(int,int,int)",
        "public int TwinTables.repair()",
        "public int TwinTables.count()",
        "public long TwinTables.field(int,int)",
        "public char TwinTables.letter(int,int)",
        "public int TwinTables.room()",
        "public int TwinTables.sum(int,int,int)",
    };
    private static final String[] FIELDS = {
        "public static final int TwinTables.NONE = -1",
        "public static final int TwinTables.NO_TABLE = -1",
        "public static final int TwinTables.NO_TYPE = -2",
        "public static final int TwinTables.BAD_RANGE = -3",
        "public static final int TwinTables.TAKEN = -4",
        "public static final int TwinTables.SAME_MARK = -5",
        "public static final int TwinTables.FULL = -6",
    };
    private static int wrong = 0;

    public static void main(String[] args) throws ReflectiveOperationException {
        due("the class", Set.of(Modifier.toString(TwinTables.class.getModifiers())), Set.of("public final"));
        due("the methods", methods(), new TreeSet<>(Set.of(METHODS)));
        due("the fields", fields(), new TreeSet<>(Set.of(FIELDS)));
        due("the constructors", constructors(), Set.of("public TwinTables(int)"));
        checkHiddenNames();
        System.out.println(wrong == 0 ? "the face is as due" : wrong + " parts of the face are not as due");
        if (wrong != 0) {
            System.exit(1);
        }
    }

    private static void due(String what, Set<String> got, Set<String> want) {
        if (!got.equals(want)) {
            wrong++;
            System.out.println(what + ": there is " + got + ", due is " + want);
        }
    }

    private static Set<String> methods() {
        Set<String> seen = new TreeSet<>();
        for (Method m : TwinTables.class.getDeclaredMethods()) {
            if (!Modifier.isPrivate(m.getModifiers()) && !m.isSynthetic()) {
                seen.add(m.toString());
            }
        }
        return seen;
    }

    private static Set<String> fields() throws ReflectiveOperationException {
        Set<String> seen = new TreeSet<>();
        for (Field f : TwinTables.class.getDeclaredFields()) {
            if (!Modifier.isPrivate(f.getModifiers()) && !f.isSynthetic()) {
                seen.add(f + " = " + f.get(null));
            }
        }
        return seen;
    }

    private static Set<String> constructors() {
        Set<String> seen = new TreeSet<>();
        for (Constructor<?> c : TwinTables.class.getDeclaredConstructors()) {
            seen.add(c.toString());
        }
        return seen;
    }

    private static void checkHiddenNames() {
        Set<String> open = new TreeSet<>();
        for (String m : METHODS) {
            open.add(m.substring(m.indexOf(PLACE) + PLACE.length(), m.indexOf('(')));
        }
        for (Method m : TwinTables.class.getDeclaredMethods()) {
            if (Modifier.isPrivate(m.getModifiers()) && open.contains(m.getName())) {
                due("a private method with a public name", Set.of(m.getName()), Set.of());
            }
        }
        for (Class<?> inside : TwinTables.class.getDeclaredClasses()) {
            int modifiers = inside.getModifiers();
            if (!Modifier.isStatic(modifiers) || Modifier.isPublic(modifiers) || Modifier.isProtected(modifiers)) {
                due("a class inside", Set.of(inside.toString()), Set.of());
            }
        }
    }
}
