import java.lang.reflect.Constructor;
import java.lang.reflect.Field;
import java.lang.reflect.Method;
import java.lang.reflect.Modifier;
import java.util.ArrayList;
import java.util.Arrays;
import java.util.List;

/** The public face: the members of the document, and no other that is not private. */
public final class FaceTest {
    private static final String[] CONSTANTS = {
        "MAX_CLAUSES=8", "MAX_TOKENS=64", "MAX_ALTS=16",
        "CELL_VALUE=0", "CELL_THUNK=1", "CELL_IND=2", "CELL_BOTTOM=3",
        "P_WILD=0", "P_VAR=1", "P_CON=2", "P_BANG=3", "P_LAZY=4",
        "NO_GUARD=-1", "RHS_CONST=8", "MODE_CLAUSES=0", "MODE_TREE=1",
        "REFUSED=-1", "RES_VALUE=0", "RES_NOMATCH=1", "RES_BOTTOM=2", "RES_LOOP=3",
        "RES_LAZYFAIL=4", "RES_NONE=5",
        "LAST_KIND=0", "LAST_CLAUSE=1", "LAST_ALT=2", "LAST_TAG=3", "LAST_CELL=4", "LAST_LOGLEN=5",
        "CI_STATE=0", "CI_TAG=1", "CI_FIELD0=2", "CI_FIELD1=3",
        "PI_CLAUSES=0", "PI_TOKENS=1", "PI_ALTS=2", "PI_COMPILED=3", "PI_DONE=4", "PI_OPEN=5",
        "PI_BOUND=6", "PI_CLAUSE_ALTS=7",
    };
    private static final String[] METHODS = {
        "int cell(int, int, int, int)", "void clearHeap()", "boolean clause()",
        "boolean pat(int, int)", "boolean alt(int, int, int)", "boolean compile()",
        "void resetProgram()", "int run(int, int, int, int)", "int last(int)", "int logAt(int)",
        "int cellInfo(int, int)", "int progInfo(int)",
    };

    public static void main(String[] args) throws IllegalAccessException {
        classItself();
        constants();
        methods();
        staticFields();
        Checks.end();
    }

    private static void classItself() {
        Class<?> face = LazyPatMatch.class;
        Checks.due("public", Modifier.isPublic(face.getModifiers()) ? 1 : 0, 1);
        Checks.due("final", Modifier.isFinal(face.getModifiers()) ? 1 : 0, 1);
        Checks.due("nested classes", face.getDeclaredClasses().length, 0);
        Constructor<?>[] constructors = face.getDeclaredConstructors();
        Checks.due("constructors", constructors.length, 1);
        Checks.due("the constructor is public", constructors[0].getModifiers(), Modifier.PUBLIC);
        Checks.due("constructor", parameters(constructors[0].getParameterTypes()).equals("(int, int)") ? 1 : 0, 1);
    }

    private static void constants() throws IllegalAccessException {
        List<String> found = new ArrayList<>();
        for (Field field : LazyPatMatch.class.getDeclaredFields()) {
            if (!Modifier.isPrivate(field.getModifiers())) {
                found.add(field.getName() + "=" + field.getInt(null));
                Checks.due(field.getName() + " is public static final",
                        field.getModifiers(), Modifier.PUBLIC | Modifier.STATIC | Modifier.FINAL);
                Checks.due(field.getName() + " is an int", field.getType() == int.class ? 1 : 0, 1);
            }
        }
        sameList("constants", found, CONSTANTS);
    }

    private static void methods() {
        List<String> found = new ArrayList<>();
        List<String> names = new ArrayList<>();
        for (Method method : LazyPatMatch.class.getDeclaredMethods()) {
            if (!Modifier.isPrivate(method.getModifiers())) {
                found.add(method.getReturnType().getSimpleName() + " " + method.getName()
                        + parameters(method.getParameterTypes()));
                names.add(method.getName());
                Checks.due(method.getName() + " is public", method.getModifiers(), Modifier.PUBLIC);
            }
        }
        sameList("methods", found, METHODS);
        for (Method method : LazyPatMatch.class.getDeclaredMethods()) {
            if (Modifier.isPrivate(method.getModifiers())) {
                Checks.due("a private method " + method.getName() + " bears a public name",
                        names.contains(method.getName()) ? 1 : 0, 0);
            }
        }
    }

    private static void staticFields() {
        for (Field field : LazyPatMatch.class.getDeclaredFields()) {
            boolean number = field.getType() == int.class || field.getType() == long.class;
            boolean constant = number && Modifier.isFinal(field.getModifiers());
            Checks.due("static field " + field.getName() + " is a constant number",
                    !Modifier.isStatic(field.getModifiers()) || constant ? 1 : 0, 1);
        }
    }

    private static String parameters(Class<?>[] types) {
        List<String> names = new ArrayList<>();
        for (Class<?> type : types) {
            names.add(type.getSimpleName());
        }
        return "(" + String.join(", ", names) + ")";
    }

    private static void sameList(String what, List<String> found, String[] due) {
        List<String> wanted = new ArrayList<>(Arrays.asList(due));
        wanted.sort(null);
        found.sort(null);
        Checks.due(what + " " + found + " instead of " + wanted, found.equals(wanted) ? 1 : 0, 1);
    }
}
