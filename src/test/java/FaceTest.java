import java.lang.reflect.Constructor;
import java.lang.reflect.Field;
import java.lang.reflect.Method;
import java.lang.reflect.Modifier;
import java.util.Arrays;
import java.util.TreeSet;

/** The public face is the document's and no more, and the constants have its values. */
final class FaceTest {
    public static void main(String[] args) {
        Check.due("NONE", MateProblems.NONE, -1);
        Check.due("STUCK", MateProblems.STUCK, -2);
        Check.due("modifiers of the class", Modifier.toString(MateProblems.class.getModifiers()), "public final");

        TreeSet<String> face = new TreeSet<>();
        TreeSet<String> hidden = new TreeSet<>();
        for (Method m : MateProblems.class.getDeclaredMethods()) {
            String said = m.getReturnType() + " " + m.getName() + names(m.getParameterTypes())
                    + " throws" + names(m.getExceptionTypes());
            if (Modifier.isPrivate(m.getModifiers())) {
                hidden.add(m.getName());
            } else {
                face.add(Modifier.toString(m.getModifiers()) + " " + said);
            }
        }
        TreeSet<String> want = new TreeSet<>(Arrays.asList(
                "public boolean type[long, int] throws[]",
                "public boolean cut[int] throws[]",
                "public int load[] throws[]",
                "public int moves[] throws[]",
                "public int move[int] throws[IndexOutOfBoundsException]",
                "public int play[int] throws[IllegalArgumentException, UnsupportedOperationException]",
                "public int back[] throws[IllegalStateException]",
                "public int beaten[] throws[]",
                "public int keys[int, int, int] throws[IllegalArgumentException]",
                "public int key[int] throws[IndexOutOfBoundsException]",
                "public int least[int, int, int] throws[IllegalArgumentException]",
                "public int refuted[int, int, int, int] throws[IllegalArgumentException, IndexOutOfBoundsException]",
                "public int lines[int, int] throws[IllegalArgumentException]",
                "public int line[int, int, int, int] throws[IllegalArgumentException, IndexOutOfBoundsException]"));
        Check.due("the methods", face.toString(), want.toString());
        for (String line : want) {
            String name = line.substring(0, line.indexOf('[')).replaceAll(".* ", "");
            Check.due("a private " + name, hidden.contains(name), false);
        }

        Constructor<?>[] made = MateProblems.class.getDeclaredConstructors();
        Check.due("constructors", made.length, 1);
        Check.due("the constructor", Modifier.toString(made[0].getModifiers()) + names(made[0].getParameterTypes()), "public[]");
        for (Field f : MateProblems.class.getDeclaredFields()) {
            boolean constant = f.getName().equals("NONE") || f.getName().equals("STUCK");
            Check.due("public " + f.getName(), Modifier.isPublic(f.getModifiers()), constant);
            Check.due("private " + f.getName(), Modifier.isPrivate(f.getModifiers()), !constant);
        }
        Check.end();
    }

    private static String names(Class<?>[] types) {
        return Arrays.toString(Arrays.stream(types).map(Class::getSimpleName).toArray());
    }
}
