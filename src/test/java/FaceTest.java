import java.lang.reflect.Constructor;
import java.lang.reflect.Field;
import java.lang.reflect.Method;
import java.lang.reflect.Modifier;
import java.util.Arrays;
import java.util.NoSuchElementException;
import java.util.Set;
import java.util.TreeSet;
import java.util.stream.Collectors;

/** The face is the document's and nothing else: rules 1 and 5 of LANGUAGE.md, as far as the compiled class shows them. */
public final class FaceTest {
    private static final String INTS = "feed5 ring1 fault0 count1 stretch2 woman2 days1 mend1 go2 stitch2 thread2 tear2 "
            + "undo0 then3 later2 opens1 first0 where3 spent0 toHold2 toSend3 bestStitch2 sent2 closed1 tight2 readings2 "
            + "see3 torn1 look1 gales2 game3 years3 steady0 nearest1 far2 gaps0 worst1 meet2 bare1 load1";
    private static final String VOIDS = "forget0 image0";
    private static final String BOOLEANS = "restore0";

    /** The document's throws clauses: of no such element alone, of an illegal argument alone, of both; the rest throws nothing. */
    private static final String NO_SUCH = "count stretch woman mend go stitch thread tear opens closed see torn look nearest far meet";
    private static final String ILLEGAL = "ring gales worst bare load";
    private static final String BOTH = "then later where toHold toSend bestStitch sent tight readings game years";

    private static int wrong = 0;

    private static void due(String what, Object got, Object want) {
        if (!got.equals(want)) {
            wrong++;
            System.out.println(what + ": " + got + ", due is " + want);
        }
    }

    private static Set<String> publicMethods(Class<?> answer) {
        Set<String> names = new TreeSet<>();
        for (Method m : HorizonSeam.class.getDeclaredMethods()) {
            if (Modifier.isPublic(m.getModifiers()) && m.getReturnType() == answer) {
                names.add(m.getName() + m.getParameterCount());
                for (Class<?> type : m.getParameterTypes()) {
                    due("a parameter of " + m.getName(), type, int.class);
                }
            }
        }
        return names;
    }

    private static Set<String> words(String row) {
        return new TreeSet<>(Arrays.asList(row.split(" ")));
    }

    private static Set<String> thrownBy(Class<?>... exceptions) {
        Set<String> names = new TreeSet<>();
        for (Method m : HorizonSeam.class.getDeclaredMethods()) {
            Set<Class<?>> declared = Set.of(m.getExceptionTypes());
            if (Modifier.isPublic(m.getModifiers()) && declared.equals(Set.of(exceptions))) {
                names.add(m.getName());
            }
        }
        return names;
    }

    private static void hidden(String what, int modifiers) {
        due(what + " is private", Modifier.isPrivate(modifiers), true);
    }

    public static void main(String[] args) {
        due("final", Modifier.isFinal(HorizonSeam.class.getModifiers()), true);
        due("int methods", publicMethods(int.class), words(INTS));
        due("void methods", publicMethods(void.class), words(VOIDS));
        due("boolean methods", publicMethods(boolean.class), words(BOOLEANS));
        due("throw NoSuchElementException", thrownBy(NoSuchElementException.class), words(NO_SUCH));
        due("throw IllegalArgumentException", thrownBy(IllegalArgumentException.class), words(ILLEGAL));
        due("throw both", thrownBy(NoSuchElementException.class, IllegalArgumentException.class), words(BOTH));
        due("NONE", HorizonSeam.NONE, -1);
        due("constructors", HorizonSeam.class.getDeclaredConstructors().length, 1);
        for (Constructor<?> c : HorizonSeam.class.getDeclaredConstructors()) {
            due("the constructor", c.getParameterCount() + " " + Modifier.isPublic(c.getModifiers()), "0 true");
        }
        for (Field f : HorizonSeam.class.getDeclaredFields()) {
            if (!f.getName().equals("NONE")) {
                hidden(f.getName(), f.getModifiers());
            }
            if (Modifier.isStatic(f.getModifiers())) {
                due(f.getName() + " is final", Modifier.isFinal(f.getModifiers()), true);
            }
        }
        Set<String> face = Arrays.stream(HorizonSeam.class.getDeclaredMethods())
                .filter(m -> Modifier.isPublic(m.getModifiers())).map(Method::getName).collect(Collectors.toSet());
        for (Method m : HorizonSeam.class.getDeclaredMethods()) {
            if (!Modifier.isPublic(m.getModifiers())) {
                hidden(m.getName(), m.getModifiers());
                due(m.getName() + " is a name of the face", face.contains(m.getName()), false);
            }
        }
        for (Class<?> inside : HorizonSeam.class.getDeclaredClasses()) {
            due(inside.getName() + " is static", Modifier.isStatic(inside.getModifiers()), true);
            for (Method m : inside.getDeclaredMethods()) {
                due(m.getName() + " is a name of the face", face.contains(m.getName()), false);
            }
        }
        System.out.println(wrong == 0 ? "the face is as told" : wrong + " things are not as told");
        if (wrong != 0) {
            System.exit(1);
        }
    }
}
