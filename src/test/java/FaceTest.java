import java.lang.reflect.Constructor;
import java.lang.reflect.Field;
import java.lang.reflect.Method;
import java.lang.reflect.Modifier;
import java.util.Map;
import java.util.Set;
import java.util.TreeSet;

// The public face is the document's, and nothing else can be seen of the class.
public final class FaceTest {
    private static final Map<String, Integer> CONSTANTS =
        Map.of("BAD", -1, "FULL", -2, "THERE", -3, "HIDDEN", -4, "NONE", -5);

    private static final Set<String> METHODS = Set.of(
        "int edit(int,int,int)", "int retract()", "int columns(int)", "boolean draft(int,int)",
        "int insert(int,int)", "int update(int,int,int,int)", "int delete(int,int)",
        "boolean shown(int,int)", "int value(int,int,int)", "int count(int)", "int sum(int,int)",
        "int key(int,int)", "boolean home(int)");

    private static int wrong = 0;

    private static void due(String what, Object got, Object want) {
        if (!got.equals(want)) {
            wrong++;
            System.out.println(what + " is " + got + ", due is " + want);
        }
    }

    private static void constants() throws IllegalAccessException {
        Set<String> seen = new TreeSet<>();
        for (Field field : SchemaTwins.class.getDeclaredFields()) {
            if (!Modifier.isPrivate(field.getModifiers())) {
                String name = field.getName();
                seen.add(name);
                due(name + "'s modifiers", Modifier.toString(field.getModifiers()), "public static final");
                due(name + "'s type", field.getType(), int.class);
                if (CONSTANTS.containsKey(name)) {
                    due(name, field.getInt(null), CONSTANTS.get(name));
                }
            }
        }
        due("the set of constants", seen, new TreeSet<>(CONSTANTS.keySet()));
    }

    private static String signature(Method method) {
        StringBuilder types = new StringBuilder();
        for (Class<?> type : method.getParameterTypes()) {
            types.append(types.length() == 0 ? "" : ",").append(type);
        }
        return method.getReturnType() + " " + method.getName() + "(" + types + ")";
    }

    private static void methods() {
        Set<String> seen = new TreeSet<>();
        Set<String> publicNames = new TreeSet<>();
        Set<String> privateNames = new TreeSet<>();
        for (Method method : SchemaTwins.class.getDeclaredMethods()) {
            if (Modifier.isPrivate(method.getModifiers())) {
                privateNames.add(method.getName());
            } else {
                seen.add(signature(method));
                publicNames.add(method.getName());
                due(method.getName() + "'s modifiers", Modifier.toString(method.getModifiers()), "public");
            }
        }
        due("the set of methods", seen, new TreeSet<>(METHODS));
        privateNames.retainAll(publicNames);
        due("the set of private methods with a public name", privateNames, Set.of());
    }

    private static void shape() {
        due("the class's modifiers", Modifier.toString(SchemaTwins.class.getModifiers()), "public final");
        due("the number of nested classes", SchemaTwins.class.getDeclaredClasses().length, 0);
        Constructor<?>[] constructors = SchemaTwins.class.getDeclaredConstructors();
        due("the number of constructors", constructors.length, 1);
        due("the constructor's modifiers", Modifier.toString(constructors[0].getModifiers()), "public");
        due("the constructor's parameters", constructors[0].getParameterCount(), 0);
    }

    public static void main(String[] args) throws IllegalAccessException {
        constants();
        methods();
        shape();
        System.out.println(wrong == 0 ? "the face is as due" : wrong + " things are not as due");
        if (wrong != 0) {
            System.exit(1);
        }
    }
}
