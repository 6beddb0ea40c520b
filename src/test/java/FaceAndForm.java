import java.io.IOException;
import java.lang.reflect.Constructor;
import java.lang.reflect.Field;
import java.lang.reflect.Method;
import java.lang.reflect.Modifier;
import java.nio.file.Files;
import java.nio.file.Path;
import java.util.Set;
import java.util.TreeSet;
import java.util.regex.Pattern;

/** The class shows the document's face and nothing else, and its source keeps to the words that are allowed. */
public final class FaceAndForm {
    private static int wrong = 0;

    private static void due(String what, Object got, Object want) {
        if (!got.equals(want)) {
            wrong++;
            System.out.println(what + " is " + got + ", due is " + want);
        }
    }

    public static void main(String[] args) throws IllegalAccessException, IOException {
        int modifiers = TurntableHouse.class.getModifiers();
        due("public and final", Modifier.isPublic(modifiers) && Modifier.isFinal(modifiers), true);
        due("constructors", constructors(), "[public()]");
        due("methods", methods().toString(), "[addLocomotive(int,int), fewestTurns(int,int), freeLength(int), "
                + "locomotives(), log(int), moveIn(int,int), moveOut(int,int), place(int), plan(int,int,int), "
                + "pointsTo(int), removeLocomotive(), restore(int), row(int,int), save(int), setDead(int,boolean), "
                + "setTableLength(int), setTrack(int,int), trackLength(int), turn(int), turnsMade(), undo()]");
        due("constants", constants().toString(), "[ALL_DEAD=-7, BAD_VALUE=-4, END_A=0, END_B=1, NONE=-11, "
                + "NOT_EMPTY=-5, NOT_SAVED=-10, NO_ROOM=-8, NO_SUCH_LOCOMOTIVE=-3, NO_SUCH_POSITION=-1, "
                + "NO_SUCH_TRACK=-2, TABLE=12, TOO_FEW=-6, TOO_MANY=-9]");
        checkPrivateNames();
        checkClassesInside();
        checkSource();
        if (wrong != 0) {
            System.exit(1);
        }
    }

    private static String constructors() {
        Set<String> all = new TreeSet<>();
        for (Constructor<?> c : TurntableHouse.class.getDeclaredConstructors()) {
            all.add(Modifier.toString(c.getModifiers()) + "(" + parameters(c.getParameterTypes()) + ")");
        }
        return all.toString();
    }

    private static Set<String> methods() {
        Set<String> visible = new TreeSet<>();
        for (Method m : TurntableHouse.class.getDeclaredMethods()) {
            if (!Modifier.isPrivate(m.getModifiers())) {
                visible.add(m.getName() + "(" + parameters(m.getParameterTypes()) + ")");
                due(m.getName() + " modifiers", Modifier.toString(m.getModifiers()), "public");
                due(m.getName() + " type", m.getReturnType(), int.class);
            }
        }
        return visible;
    }

    private static Set<String> constants() throws IllegalAccessException {
        Set<String> visible = new TreeSet<>();
        for (Field f : TurntableHouse.class.getDeclaredFields()) {
            if (!Modifier.isPrivate(f.getModifiers())) {
                due(f.getName() + " modifiers", Modifier.toString(f.getModifiers()), "public static final");
                visible.add(f.getName() + "=" + f.getInt(null));
            }
        }
        return visible;
    }

    private static void checkPrivateNames() {
        Set<String> open = new TreeSet<>();
        for (Method m : TurntableHouse.class.getMethods()) {
            open.add(m.getName());
        }
        for (Method m : TurntableHouse.class.getDeclaredMethods()) {
            due(m.getName() + " is private and bears a public name",
                    Modifier.isPrivate(m.getModifiers()) && open.contains(m.getName()), false);
        }
    }

    private static void checkClassesInside() {
        for (Class<?> inside : TurntableHouse.class.getDeclaredClasses()) {
            int modifiers = inside.getModifiers();
            due(inside.getName() + " is static", Modifier.isStatic(modifiers), true);
            due(inside.getName() + " is open",
                    Modifier.isPublic(modifiers) || Modifier.isProtected(modifiers), false);
        }
    }

    /** Words that LANGUAGE.md leaves out; .ci/run starts the tests in the project's folder. */
    private static void checkSource() throws IOException {
        String source = Files.readString(Path.of("src/main/java/TurntableHouse.java"));
        String code = source.replaceAll("(?s)/\\*.*?\\*/", "").replaceAll("//[^\n]*", "");
        String[] banned = {"\\bthrow\\b", "\\btry\\b", "\\bcatch\\b", "\\bsynchronized\\b", "\\bassert\\b", "->", "::",
            "Exact\\(", "\\bhashCode\\b", "\\btoString\\b", "\\bpackage\\b", "\\bSystem\\.(?!arraycopy)",
            "import (?!java\\.util\\.Arrays;)", "MAX_VALUE", "MIN_VALUE", "\\bstatic \\{"};
        for (String word : banned) {
            due("the source has " + word, Pattern.compile(word).matcher(code).find(), false);
        }
    }

    private static String parameters(Class<?>[] types) {
        StringBuilder text = new StringBuilder();
        for (Class<?> type : types) {
            text.append(text.length() == 0 ? "" : ",").append(type.getName());
        }
        return text.toString();
    }
}
