import java.lang.reflect.Constructor;
import java.lang.reflect.Field;
import java.lang.reflect.Member;
import java.lang.reflect.Method;
import java.lang.reflect.Modifier;
import java.util.Arrays;
import java.util.TreeMap;

/** The public face: what can be named from outside is what the document lists, and nothing else. */
final class FaceTest {
    private static final int PUBLIC_CONSTANT = Modifier.PUBLIC | Modifier.STATIC | Modifier.FINAL;
    /** Each method with the number of its arguments, in the order of the document. */
    private static final String[] METHODS = {"add 2", "remove 1", "fileCount 0", "setDigest 2", "setValue 4",
        "clearValue 3", "value 2", "sourceOf 2", "setOrder 3", "keeperOf 1", "groupSize 1", "wasted 0", "merge 1",
        "stack 2", "putInto 3", "takeOut 1", "chooseCover 2", "collapse 2", "stackOf 1", "coverOf 1", "stackAt 2",
        "type 1", "clearRule 0", "fault 0", "satisfies 1", "select 0", "makeAlbum 0", "removeAlbum 1",
        "changeRule 1", "albumSize 1", "isIn 2", "sortBy 3", "viewSize 1", "viewAt 2", "journalSize 0",
        "journalAt 2", "turnover 2", "count 1"};

    private FaceTest() {
    }

    public static void main(String[] args) throws IllegalAccessException {
        theClass();
        constants();
        constructor();
        methods();
        Due.end();
    }

    private static boolean isPrivate(Member member) {
        return Modifier.isPrivate(member.getModifiers());
    }

    private static void theClass() {
        int modifiers = MediaCatalog.class.getModifiers();
        Due.is("face: public and final", modifiers, Modifier.PUBLIC | Modifier.FINAL);
        Due.is("face: extends nothing", MediaCatalog.class.getSuperclass() == Object.class ? 1 : 0, 1);
        Due.is("face: implements nothing", MediaCatalog.class.getInterfaces().length, 0);
        Due.is("face: without a package", MediaCatalog.class.getPackageName().length(), 0);
    }

    private static void constants() throws IllegalAccessException {
        TreeMap<String, Integer> due = new TreeMap<>();
        due.put("INVALID_ARGUMENT", -1);
        due.put("NOT_POSSIBLE", -2);
        due.put("LIMIT_REACHED", -3);
        due.put("NOT_FOUND", -4);
        for (Field field : MediaCatalog.class.getDeclaredFields()) {
            if (!isPrivate(field)) {
                Integer value = due.remove(field.getName());
                Due.is("face: " + field.getName() + " is a constant of the document", value == null ? 0 : 1, 1);
                Due.is("face: " + field.getName() + " is public and final", field.getModifiers(), PUBLIC_CONSTANT);
                if (value != null && field.getType() == int.class) {
                    Due.is("face: " + field.getName(), field.getInt(null), value);
                } else {
                    Due.is("face: " + field.getName() + " is an int", 0, 1);
                }
            }
        }
        Due.is("face: missing constants " + due.keySet(), due.size(), 0);
    }

    private static void constructor() {
        Constructor<?>[] constructors = MediaCatalog.class.getDeclaredConstructors();
        Due.is("face: one constructor", constructors.length, 1);
        Due.is("face: it is public", constructors[0].getModifiers(), Modifier.PUBLIC);
        Due.is("face: without arguments", constructors[0].getParameterCount(), 0);
    }

    private static void methods() {
        TreeMap<String, Integer> due = new TreeMap<>();
        for (String method : METHODS) {
            due.put(method, 1);
        }
        Due.is("face: 38 methods", due.size(), 38);
        for (Method method : MediaCatalog.class.getDeclaredMethods()) {
            if (!isPrivate(method)) {
                String name = method.getName() + " " + method.getParameterCount();
                Due.is("face: " + name + " is a method of the document", due.remove(name) == null ? 0 : 1, 1);
                Due.is("face: " + name + " is public", method.getModifiers(), Modifier.PUBLIC);
                Due.is("face: " + name + " returns an int", method.getReturnType() == int.class ? 1 : 0, 1);
                boolean takesInts = Arrays.stream(method.getParameterTypes()).allMatch(type -> type == int.class);
                Due.is("face: " + name + " takes ints", takesInts ? 1 : 0, 1);
            }
        }
        Due.is("face: missing methods " + due.keySet(), due.size(), 0);
    }
}
