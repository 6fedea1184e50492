import java.lang.reflect.Constructor;
import java.lang.reflect.Field;
import java.lang.reflect.Method;
import java.lang.reflect.Modifier;
import java.util.Arrays;
import java.util.Set;
import java.util.TreeSet;

/** The public face: what the document names, and nothing else that could be seen from outside. */
final class FaceTest {
    private static final String[] FACE = {
        "int begin(int, int)", "int setCell(int, int)", "int setTrue(int, int)",
        "int slope(boolean, int, int, int)", "int setBounds(int, int)", "int addRay(int, int)",
        "int setUsed(int, boolean)", "long setTime(int, long)", "int observe(int, int)",
        "int setOrder(int, int, int)", "int correct(int)", "int sweep(int)", "int smooth(int)", "int fill()",
        "int ray(int, int)", "long time(int, int)", "long residual(int)", "int wayCell(int, int)",
        "int length(int, int)", "long least(int, int, boolean)", "int cell(int, int)", "int section(int)",
        "long fit(int)", "long whatIf(int, int, int)", "int type(int)", "int clearScript()", "int run()",
        "int undo()", "long digest()"};

    public static void main(String[] args) {
        Set<String> wrong = new TreeSet<>();
        Class<SlownessImager> type = SlownessImager.class;
        if (!Modifier.isPublic(type.getModifiers()) || !Modifier.isFinal(type.getModifiers())) {
            wrong.add("the class is not public and final");
        }
        Set<String> missing = new TreeSet<>(Arrays.asList(FACE));
        Set<String> names = new TreeSet<>();
        for (String signature : FACE) {
            names.add(signature.substring(signature.indexOf(' ') + 1, signature.indexOf('(')));
        }
        for (Method method : type.getDeclaredMethods()) {
            boolean isDue = Modifier.isPublic(method.getModifiers()) && missing.remove(signature(method));
            boolean isHidden = Modifier.isPrivate(method.getModifiers()) && !names.contains(method.getName());
            if (!isDue && !isHidden) {
                wrong.add("not of the face: " + signature(method));
            }
        }
        missing.forEach(signature -> wrong.add("missing: " + signature));
        for (Constructor<?> constructor : type.getDeclaredConstructors()) {
            if (constructor.getParameterCount() != 0 || !Modifier.isPublic(constructor.getModifiers())) {
                wrong.add("not of the face: " + constructor);
            }
        }
        for (Field field : type.getDeclaredFields()) {
            boolean isNone = field.getName().equals("NONE") && field.getType() == int.class
                    && Modifier.toString(field.getModifiers()).equals("public static final");
            if (!isNone && !Modifier.isPrivate(field.getModifiers())) {
                wrong.add("not of the face: " + field);
            }
        }
        wrong.forEach(System.out::println);
        System.out.println("FaceTest: " + wrong.size() + " wrong");
        if (!wrong.isEmpty()) {
            System.exit(1);
        }
    }

    private static String signature(Method method) {
        StringBuilder text = new StringBuilder(method.getReturnType() + " " + method.getName() + "(");
        String comma = "";
        for (Class<?> parameter : method.getParameterTypes()) {
            text.append(comma).append(parameter);
            comma = ", ";
        }
        return text.append(')').toString();
    }
}
