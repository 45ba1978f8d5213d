import java.lang.reflect.Constructor;
import java.lang.reflect.Field;
import java.lang.reflect.Method;
import java.lang.reflect.Modifier;
import java.util.Arrays;
import java.util.Set;
import java.util.TreeSet;

/** The public face is the one of the document, and nothing else can be seen from outside. */
public final class FaceTest {
    private static final Check CHECK = new Check();

    private static final Set<String> METHODS = new TreeSet<>(Arrays.asList(
        "int addBase(int)", "int dropBase()", "int length()", "boolean block(int,boolean)",
        "boolean setEnergy(int,int)", "boolean canPair(int,int)", "int leastEnergy()",
        "int structures()", "int atGap(int)", "int partner(int)", "boolean needed(int,int)",
        "int optimaWith(int,int)", "int trialPair(int,int)", "int trialClear()", "int trialGap()"));

    public static void main(String[] args) {
        CHECK.due("the class is public and final",
            RnaFoldEnergy.class.getModifiers(), Modifier.PUBLIC | Modifier.FINAL);
        CHECK.due("classes inside", RnaFoldEnergy.class.getDeclaredClasses().length, 0);
        constants();
        constructor();
        methods();
        CHECK.finish();
    }

    private static void constants() {
        CHECK.due("FULL", RnaFoldEnergy.FULL, -1);
        CHECK.due("BAD", RnaFoldEnergy.BAD, -2);
        CHECK.due("NONE", RnaFoldEnergy.NONE, -3);
        Set<String> seen = new TreeSet<>();
        for (Field field : RnaFoldEnergy.class.getDeclaredFields()) {
            if (!Modifier.isPrivate(field.getModifiers())) {
                seen.add(field.getName());
                CHECK.due(field.getName() + "'s modifiers", field.getModifiers(),
                    Modifier.PUBLIC | Modifier.STATIC | Modifier.FINAL);
            }
        }
        Set<String> want = new TreeSet<>(Arrays.asList("FULL", "BAD", "NONE"));
        CHECK.due("the fields that can be seen are " + seen, seen.equals(want), true);
    }

    private static void constructor() {
        Constructor<?>[] made = RnaFoldEnergy.class.getDeclaredConstructors();
        CHECK.due("constructors", made.length, 1);
        CHECK.due("the constructor is public", made[0].getModifiers(), Modifier.PUBLIC);
        CHECK.due("the constructor takes an int",
            Arrays.equals(made[0].getParameterTypes(), new Class<?>[] {int.class}), true);
    }

    private static void methods() {
        Set<String> seen = new TreeSet<>();
        for (Method method : RnaFoldEnergy.class.getDeclaredMethods()) {
            if (!Modifier.isPrivate(method.getModifiers())) {
                String text = method.toGenericString().replace("RnaFoldEnergy.", "").replace(" ,", ",");
                CHECK.due(text + " is public", text.startsWith("public "), true);
                seen.add(text.replace("public ", ""));
            }
        }
        CHECK.due("the methods that can be seen are " + seen, seen.equals(METHODS), true);
    }
}
