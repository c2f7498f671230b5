import java.lang.reflect.Field;
import java.lang.reflect.Method;
import java.lang.reflect.Modifier;
import java.util.TreeSet;

/** The public face is the document's, and nothing more (LANGUAGE.md, rules 1, 2 and 5). */
final class FaceTest {
    private static final String[] CALLS = {
        "int letter(int)", "int blank()", "int fault()", "int cellar()", "int cask(int,int)",
        "int person(int,int)", "int about(int,int)", "int as(int,int)", "int drink(int,int)",
        "int pour(int,int,int)", "int table(int)", "int blend(int,int,int)", "int top(int,int,int)",
        "int trial(int,boolean)", "int forget()", "int births(int)", "int ask(int)",
        "int topped(int,int,int)", "int feasts(int,int,int)", "int image()", "int restore()",
        "int count(int)", "long digest()"
    };

    public static void main(String[] args) {
        Check check = new Check();
        check.due("the class is public and final",
            WineByYears.class.getModifiers() & (Modifier.PUBLIC | Modifier.FINAL), Modifier.PUBLIC | Modifier.FINAL);
        check.due("constructors", WineByYears.class.getDeclaredConstructors().length, 1);
        check.due("public constructors", WineByYears.class.getConstructors().length, 1);
        calls(check);
        fields(check);
        check.due("public constructor's parameters", WineByYears.class.getConstructors()[0].getParameterCount(), 0);
        for (Class<?> inner : WineByYears.class.getDeclaredClasses()) {
            int modifiers = inner.getModifiers();
            check.due(inner + " is static", modifiers & Modifier.STATIC, Modifier.STATIC);
            check.due(inner + " is not for others", modifiers & (Modifier.PUBLIC | Modifier.PROTECTED), 0);
        }
        check.due("what the class is of", WineByYears.class.getSuperclass() == Object.class
            && WineByYears.class.getInterfaces().length == 0 ? 1 : 0, 1);
        constants(check);
        check.end();
    }

    private static void calls(Check check) {
        TreeSet<String> due = new TreeSet<>();
        TreeSet<String> names = new TreeSet<>();
        for (String call : CALLS) {
            due.add(call);
            names.add(call.substring(call.indexOf(' ') + 1, call.indexOf('(')));
        }
        for (Method method : WineByYears.class.getDeclaredMethods()) {
            if (Modifier.isPublic(method.getModifiers())) {
                check.due("in the document: " + signature(method), due.remove(signature(method)) ? 1 : 0, 1);
                check.due(method + " is of an object", method.getModifiers() & Modifier.STATIC, 0);
                check.due(method + " tells of exceptions", method.getExceptionTypes().length, 0);
            } else {
                check.due(method + " is private", method.getModifiers() & Modifier.PRIVATE, Modifier.PRIVATE);
                check.due(method + " has a name of its own", names.contains(method.getName()) ? 1 : 0, 0);
            }
        }
        check.due("calls that are missing: " + due, due.size(), 0);
    }

    private static String signature(Method method) {
        StringBuilder text = new StringBuilder();
        text.append(method.getReturnType().getName()).append(' ').append(method.getName()).append('(');
        String comma = "";
        for (Class<?> type : method.getParameterTypes()) {
            text.append(comma).append(type.getName());
            comma = ",";
        }
        return text.append(')').toString();
    }

    private static void fields(Check check) {
        int publicOnes = 0;
        for (Field field : WineByYears.class.getDeclaredFields()) {
            int modifiers = field.getModifiers();
            if (Modifier.isPublic(modifiers)) {
                publicOnes++;
                check.due(field + " is a constant int",
                    Modifier.isStatic(modifiers) && field.getType() == int.class ? 1 : 0, 1);
            } else {
                check.due(field + " is private", modifiers & Modifier.PRIVATE, Modifier.PRIVATE);
            }
            if (Modifier.isStatic(modifiers)) {
                check.due(field + " is final", modifiers & Modifier.FINAL, Modifier.FINAL);
            }
        }
        check.due("public fields", publicOnes, 5);
    }

    private static void constants(Check check) {
        check.due("NONE", WineByYears.NONE, -1);
        check.due("UNKNOWN", WineByYears.UNKNOWN, -101);
        check.due("OUTSIDE", WineByYears.OUTSIDE, -102);
        check.due("STATE", WineByYears.STATE, -103);
        check.due("FULL", WineByYears.FULL, -104);
    }
}
