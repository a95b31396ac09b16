import java.lang.reflect.Constructor;
import java.lang.reflect.Field;
import java.lang.reflect.Method;
import java.lang.reflect.Modifier;
import java.util.TreeMap;
import java.util.TreeSet;

/** The public face is the document's: these constants, this constructor, these methods, and nothing beside them. */
public final class FaceTest {
    private static final String[] CONSTANTS = {
        "INVALID_ARGUMENT=-1", "INVALID_STATE=-2", "LIMIT_REACHED=-3", "NOT_FOUND=-4",
        "INSERTING=0", "REPLACING=1", "SAME_STEM=2", "SWAPPING=3",
        "REPLACE=1", "REMOVE=2", "INSERT=3", "SWAP=4",
    };
    /** Each method with the number of its int parameters. */
    private static final String[] METHODS = {
        "append/1", "clear/0", "addSaying/2", "removeSaying/1", "sayingCount/0", "lengthOf/1", "wordAt/2", "byAge/1",
        "setCost/2", "distance/2", "similarityBits/2", "editCount/2", "editAt/3", "nearest/1", "addPattern/0",
        "removePattern/1", "fillings/2", "slotWord/3", "matchedSayings/1", "bestPattern/1", "setLimit/1",
        "groupCount/0", "groupOf/1", "centreOf/1", "groupInfo/2", "crossingCost/3", "crossing/2", "undo/0",
    };
    private static int wrong = 0;

    private static void due(String what, Object got, Object want) {
        if (!got.equals(want)) {
            wrong++;
            System.out.println(what + " is " + got + ", due is " + want);
        }
    }

    private static TreeSet<String> constants() throws IllegalAccessException {
        TreeSet<String> found = new TreeSet<>();
        for (Field field : ProverbCollection.class.getDeclaredFields()) {
            int is = field.getModifiers();
            if (!Modifier.isPrivate(is)) {
                boolean constant = Modifier.isPublic(is) && Modifier.isStatic(is) && Modifier.isFinal(is);
                found.add(field.getName() + (constant ? "=" + field.get(null) : " is no public constant"));
            }
        }
        return found;
    }

    private static TreeSet<String> methods() {
        TreeSet<String> found = new TreeSet<>();
        TreeMap<String, Integer> times = new TreeMap<>();
        for (Method method : ProverbCollection.class.getDeclaredMethods()) {
            times.merge(method.getName(), 1, Integer::sum);
            if (Modifier.isPrivate(method.getModifiers())) {
                continue;
            }
            String shape = method.getName() + "/" + method.getParameterCount();
            boolean ints = method.getReturnType() == int.class && Modifier.isPublic(method.getModifiers());
            for (Class<?> type : method.getParameterTypes()) {
                ints &= type == int.class;
            }
            found.add(ints ? shape : shape + " is not a public method of ints");
            due("the number of methods named " + method.getName(), times.get(method.getName()), 1);
        }
        return found;
    }

    public static void main(String[] args) throws IllegalAccessException {
        Class<?> face = ProverbCollection.class;
        due("public final", Modifier.isPublic(face.getModifiers()) && Modifier.isFinal(face.getModifiers()), true);
        Constructor<?>[] constructors = face.getDeclaredConstructors();
        due("number of constructors", constructors.length, 1);
        due("constructor is public", Modifier.isPublic(constructors[0].getModifiers()), true);
        due("parameters of the constructor", constructors[0].getParameterCount(), 0);
        due("constants", constants(), new TreeSet<>(java.util.List.of(CONSTANTS)));
        due("methods", methods(), new TreeSet<>(java.util.List.of(METHODS)));
        for (Class<?> inside : face.getDeclaredClasses()) {
            int is = inside.getModifiers();
            due(inside.getName() + " is inside only", !Modifier.isPublic(is) && !Modifier.isProtected(is), true);
            due(inside.getName() + " is static", Modifier.isStatic(is), true);
        }
        System.out.println(wrong == 0 ? "the face is as due" : wrong + " parts of the face are not as due");
        if (wrong != 0) {
            System.exit(1);
        }
    }
}
