import java.lang.reflect.Constructor;
import java.lang.reflect.Field;
import java.lang.reflect.Method;
import java.lang.reflect.Modifier;
import java.util.Arrays;
import java.util.Set;
import java.util.TreeSet;

/** The public face: every constant, constructor and method of the document, and no other member that is not private. */
public final class FaceTest {
    /** In the order of the document. */
    static final String[] METHODS = {
        "holder(int,int,int)", "rule(int,int,int)", "of(int,int)", "at(int,int)", "type(int)", "crypt()", "count(int)",
        "days(int)", "change(int,int)", "move(int,int)", "talk(int)", "drift(int)", "undo()", "seed(int)",
        "ahead(int,int)", "then(int,int)", "takes(int)", "cough(int)", "content(int)", "swaps(int)",
        "latest(int,int,int)", "earn(int,int)", "dark(int,int)", "spare(int,int)", "coughs(int,int,int,int,int)",
        "image()", "restore()", "looks(int,int,int,int,int,int)", "film(int,int,int,int,int)", "sheet(int,int,int)",
        "drop(int)", "item(int,int,int,long)", "copy(int,int,int,int,int)"};
    private static final String[] CONSTANTS = {
        "BAD=-1", "NOT=-2", "FULL=-3", "NONE=-4", "NULL=-11", "CAST=-12", "INDEX=-13", "SIZE=-14"};

    public static void main(String[] args) throws Exception {
        Check check = new Check();
        check.part("the class");
        int modifiers = CryptBays.class.getModifiers();
        check.due("public", Modifier.isPublic(modifiers) ? 1 : 0, 1);
        check.due("final", Modifier.isFinal(modifiers) ? 1 : 0, 1);
        constructors(check);
        methods(check);
        fields(check);
        classesInside(check);
        check.done();
    }

    private static void constructors(Check check) {
        check.part("constructors");
        Constructor<?>[] all = CryptBays.class.getDeclaredConstructors();
        check.due("how many", all.length, 1);
        check.due("without arguments", all[0].getParameterCount(), 0);
        check.due("public", Modifier.isPublic(all[0].getModifiers()) ? 1 : 0, 1);
    }

    private static void methods(Check check) {
        check.part("methods");
        Set<String> want = new TreeSet<>(Arrays.asList(METHODS));
        Set<String> names = new TreeSet<>();
        for (String method : METHODS) {
            names.add(method.substring(0, method.indexOf('(')));
        }
        for (Method method : CryptBays.class.getDeclaredMethods()) {
            if (Modifier.isPrivate(method.getModifiers())) {
                check.due("a private " + method.getName() + " of a public name", names.contains(method.getName()) ? 1 : 0, 0);
                continue;
            }
            if (method.isSynthetic()) {
                continue;
            }
            String told = told(method);
            check.due(told + " is in the document", want.remove(told) ? 1 : 0, 1);
            check.due(told + " is public", Modifier.isPublic(method.getModifiers()) ? 1 : 0, 1);
            check.due(told + " is of an object", Modifier.isStatic(method.getModifiers()) ? 1 : 0, 0);
            check.due(told + " answers an int", method.getReturnType() == int.class ? 1 : 0, 1);
        }
        check.due("missing: " + want, want.size(), 0);
    }

    private static String told(Method method) {
        StringBuilder text = new StringBuilder(method.getName()).append('(');
        for (Class<?> type : method.getParameterTypes()) {
            text.append(text.charAt(text.length() - 1) == '(' ? "" : ",").append(type.getName());
        }
        return text.append(')').toString();
    }

    private static void fields(Check check) throws Exception {
        check.part("constants");
        Set<String> want = new TreeSet<>(Arrays.asList(CONSTANTS));
        for (Field field : CryptBays.class.getDeclaredFields()) {
            int modifiers = field.getModifiers();
            if (Modifier.isStatic(modifiers)) {
                check.due(field.getName() + " is final", Modifier.isFinal(modifiers) ? 1 : 0, 1);
            }
            if (Modifier.isPrivate(modifiers) || field.isSynthetic()) {
                continue;
            }
            check.due(field.getName() + " is public", Modifier.isPublic(modifiers) ? 1 : 0, 1);
            String told = field.getName() + "=" + field.getInt(null);
            check.due(told + " is in the document", want.remove(told) ? 1 : 0, 1);
        }
        check.due("missing: " + want, want.size(), 0);
    }

    private static void classesInside(Check check) {
        check.part("classes inside");
        Class<?>[] inside = CryptBays.class.getDeclaredClasses();
        check.due("at most twelve", inside.length <= 12 ? 1 : 0, 1);
        for (Class<?> one : inside) {
            int modifiers = one.getModifiers();
            check.due(one.getName() + " is static", Modifier.isStatic(modifiers) ? 1 : 0, 1);
            check.due(one.getName() + " is not public", Modifier.isPublic(modifiers) ? 1 : 0, 0);
            check.due(one.getName() + " has at most 20 fields", one.getDeclaredFields().length <= 20 ? 1 : 0, 1);
        }
    }
}
