import java.lang.reflect.Constructor;
import java.lang.reflect.Field;
import java.lang.reflect.Method;
import java.lang.reflect.Modifier;
import java.util.Arrays;
import java.util.Set;
import java.util.TreeSet;

/** The class shows the document's public face and nothing beside it. */
public final class ExampleLearnerFace {
    private static final String[] FACE = {
        "public static final int ExampleLearner.BAD_LETTER",
        "public static final int ExampleLearner.FULL",
        "public static final int ExampleLearner.NONE",
        "public static final int ExampleLearner.BAD_COUNT",
        "public ExampleLearner()",
        "public int ExampleLearner.typeIn(int)",
        "public int ExampleLearner.typeOut(int)",
        "public void ExampleLearner.erase()",
        "public int ExampleLearner.learn()",
        "public int ExampleLearner.forget()",
        "public int ExampleLearner.least()",
        "public int ExampleLearner.programs(int)",
        "public int ExampleLearner.atom(int)",
        "public boolean ExampleLearner.can()",
        "public int ExampleLearner.ways()",
        "public int ExampleLearner.resultLength()",
        "public int ExampleLearner.result(int)",
        "public boolean ExampleLearner.right(int)",
    };

    public static void main(String[] args) {
        Set<String> want = new TreeSet<>(Arrays.asList(FACE));
        Set<String> got = notPrivate();
        boolean same = got.equals(want);
        if (!same) {
            System.out.println("the face is " + got + ", due is " + want);
        }
        int modifiers = ExampleLearner.class.getModifiers();
        boolean publicFinal = Modifier.isPublic(modifiers) && Modifier.isFinal(modifiers);
        if (!publicFinal) {
            System.out.println("the class is " + Modifier.toString(modifiers) + ", due is public final");
        }
        if (!same || !publicFinal) {
            System.exit(1);
        }
        System.out.println("the face is as due");
    }

    private static Set<String> notPrivate() {
        Set<String> members = new TreeSet<>();
        for (Field field : ExampleLearner.class.getDeclaredFields()) {
            if (!Modifier.isPrivate(field.getModifiers())) {
                members.add(field.toString());
            }
        }
        for (Method method : ExampleLearner.class.getDeclaredMethods()) {
            if (!Modifier.isPrivate(method.getModifiers())) {
                members.add(method.toString());
            }
        }
        for (Constructor<?> constructor : ExampleLearner.class.getDeclaredConstructors()) {
            if (!Modifier.isPrivate(constructor.getModifiers())) {
                members.add(constructor.toString());
            }
        }
        return members;
    }
}
