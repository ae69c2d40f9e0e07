import java.lang.reflect.Field;
import java.lang.reflect.Method;
import java.lang.reflect.Modifier;
import java.util.Arrays;
import java.util.TreeSet;

/** The public face: its constants, its constructor, its calls, and nothing else that is not private. */
public final class Face {
    private static final String[] CALLS = {
        "int plot(int,int)", "int of(int,int)", "int lies(int,int)", "int feed(long,int)", "int land()",
        "int set(int,int)", "int gives(int)", "int year(int,int)", "int rule(int,int)", "int burns(int)",
        "int moves(int)", "int go(int,int)", "int row(int)", "int judged()", "int proof(int,int,int)",
        "int ever(int,int)", "int less(int)", "long safe(int,int,int)", "int two(int)", "int way(int)",
        "int age(int)", "int round(int)", "int act(int,int,int)", "int trace(int)", "int as(int,int)",
        "int image()", "int undo()", "int count(int)"
    };

    public static void main(String[] args) {
        Check check = new Check();
        check.due("NONE", VillageRounds.NONE, -1);
        check.due("BAD", VillageRounds.BAD, -2);
        check.due("STATE", VillageRounds.STATE, -3);
        check.due("FULL", VillageRounds.FULL, -4);
        check.due("NO", VillageRounds.NO, Long.MIN_VALUE);
        Class<?> face = VillageRounds.class;
        int open = Modifier.PUBLIC | Modifier.FINAL;
        check.due("public and final", face.getModifiers() & open, open);
        check.due("constructors", face.getDeclaredConstructors().length, 1);
        check.due("public constructor", face.getDeclaredConstructors()[0].getModifiers() & Modifier.PUBLIC, 1);
        TreeSet<String> calls = new TreeSet<>();
        for (Method method : face.getDeclaredMethods()) {
            if (!Modifier.isPrivate(method.getModifiers())) {
                calls.add(told(method));
            }
        }
        TreeSet<String> due = new TreeSet<>(Arrays.asList(CALLS));
        check.due("calls: " + calls, calls.equals(due) ? 1 : 0, 1);
        int constants = 0;
        for (Field field : face.getDeclaredFields()) {
            constants += Modifier.isPrivate(field.getModifiers()) ? 0 : 1;
        }
        check.due("fields that are not private", constants, 5);
        check.end("Face");
    }

    private static String told(Method method) {
        StringBuilder text = new StringBuilder();
        text.append(method.getReturnType()).append(' ').append(method.getName()).append('(');
        for (Class<?> type : method.getParameterTypes()) {
            text.append(text.charAt(text.length() - 1) == '(' ? "" : ",").append(type);
        }
        return text.append(')').toString();
    }
}
