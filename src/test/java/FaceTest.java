import java.lang.reflect.Constructor;
import java.lang.reflect.Field;
import java.lang.reflect.Method;
import java.lang.reflect.Modifier;
import java.util.Arrays;
import java.util.TreeSet;

/** The public face: the document's calls and constants, and no others. */
public final class FaceTest {
    private static final String[] CALLS = {
        "int land(int) Index State",
        "int current(int,int) Index Argument",
        "int sun(int,int) Argument",
        "int pass(int) Argument State",
        "int lay(int,int,int,int) Index Argument State",
        "int station(int,int) Index Argument State",
        "int storm(int,int) Argument State",
        "int calibrate(int) Index State",
        "int flag(int,int) Index Argument",
        "int bound(int) Argument",
        "int search(int) Index State",
        "int leg(int,int,int) Index Argument",
        "int part(int,int,int) Argument State",
        "int day()",
        "int ofLayer(int,int,int) Index Argument",
        "int total(int) Argument",
        "int ofFloat(int,int) Index Argument",
        "int stations()",
        "int readings()",
        "int ofReading(int,int) Index Argument",
        "int mean(int,int,int) Index Argument State",
        "int error(int,int,int) Index Argument State",
        "int residual(int,int) Index Argument State",
        "int chance(int,int) Index",
        "int best(int) Index",
        "int plan(int,int,int) Index Argument",
        "int tide(int) Argument",
        "int highest(int,int) Argument",
    };
    private static final String[] CONSTANTS = {"NONE", "UPPER", "LOWER", "GOOD", "SPIKE", "BAD"};

    private FaceTest() {
    }

    public static void main(String[] args) throws ReflectiveOperationException {
        Check check = new Check("FaceTest");
        check.due("the class is public and final", Modifier.PUBLIC | Modifier.FINAL, GyreWatch.class.getModifiers());
        check.text("the calls", new TreeSet<>(Arrays.asList(CALLS)).toString(), calls().toString());
        check.text("the constants", new TreeSet<>(Arrays.asList(CONSTANTS)).toString(), constants().toString());
        constructors(check);
        check.due("NONE", -1, GyreWatch.NONE);
        check.due("UPPER", 0, GyreWatch.UPPER);
        check.due("LOWER", 1, GyreWatch.LOWER);
        check.due("GOOD", 0, GyreWatch.GOOD);
        check.due("SPIKE", 1, GyreWatch.SPIKE);
        check.due("BAD", 2, GyreWatch.BAD);
        check.end();
    }

    private static TreeSet<String> calls() {
        TreeSet<String> calls = new TreeSet<>();
        TreeSet<String> hidden = new TreeSet<>();
        TreeSet<String> shown = new TreeSet<>();
        for (Method method : GyreWatch.class.getDeclaredMethods()) {
            if (Modifier.isPrivate(method.getModifiers())) {
                hidden.add(method.getName());
            } else {
                calls.add(wordsOf(method));
                shown.add(method.getName());
            }
        }
        hidden.retainAll(shown);
        for (String name : hidden) {
            calls.add("private " + name + " bears the name of a public one");
        }
        return calls;
    }

    private static String wordsOf(Method method) {
        StringBuilder words = new StringBuilder();
        words.append(method.getReturnType()).append(' ').append(method.getName()).append('(');
        for (int i = 0; i < method.getParameterCount(); i++) {
            words.append(i == 0 ? "" : ",").append(method.getParameterTypes()[i]);
        }
        words.append(')');
        for (Class<?> thrown : method.getExceptionTypes()) {
            words.append(' ').append(thrown.getSimpleName()
                    .replace("OutOfBounds", "").replace("Illegal", "").replace("Exception", ""));
        }
        return words.toString();
    }

    private static TreeSet<String> constants() {
        TreeSet<String> constants = new TreeSet<>();
        for (Field field : GyreWatch.class.getDeclaredFields()) {
            if (!Modifier.isPrivate(field.getModifiers())) {
                boolean isConstant = Modifier.isPublic(field.getModifiers())
                        && Modifier.isStatic(field.getModifiers()) && Modifier.isFinal(field.getModifiers())
                        && field.getType() == int.class;
                constants.add(isConstant ? field.getName() : field.getName() + " is no constant");
            }
        }
        return constants;
    }

    private static void constructors(Check check) {
        Constructor<?>[] all = GyreWatch.class.getDeclaredConstructors();
        check.due("how many constructors", 1, all.length);
        check.due("the constructor is public", Modifier.PUBLIC, all[0].getModifiers());
        check.due("its arguments", 0, all[0].getParameterCount());
    }
}
