import java.lang.reflect.Constructor;
import java.lang.reflect.Field;
import java.lang.reflect.Method;
import java.lang.reflect.Modifier;
import java.util.Set;
import java.util.TreeSet;

/** The class has the document's face and nothing more (rule 1 of LANGUAGE.md). */
public final class FaceTest {
    private static final String[] FACE = {
        "int key(int,int,int)", "int mask(int)", "int flow(int,int,int,int,int)", "int table(int,int)",
        "int balance()", "int reads(int,int)", "int retire(int)", "int steer(int,int)", "int free(int)",
        "int terms(int,int)", "int packet(int,int,boolean)", "int burst(int,int,int)", "int gap(int,int)",
        "int tick(int)", "int poll(int)", "int undo()", "int image(int)", "int back(int)",
        "int hash(int,int,int,int,int)", "int hashOf(int)", "int of(int,int)", "int find(int,int,int,int,int)",
        "int missing(int,int)", "int entry(int,int)", "int queue(int,int)", "int waits(int,int,int)",
        "int segment(int,int)", "long given(int)", "int window(int)", "boolean isBothWays()", "int reach()",
        "int aim(int,int)", "int spread(int)", "long ratio(int)", "int alike()", "int load(int)",
        "int would(int,int)", "int drain()", "int nextCall(int)", "int joined(int,int)", "int count(int)",
        "int status()",
    };

    public static void main(String[] args) throws Exception {
        Check check = new Check();
        Class<?> type = RxQueues.class;
        check.due("public and final", type.getModifiers(), Modifier.PUBLIC | Modifier.FINAL);
        Set<String> want = new TreeSet<>(Set.of(FACE));
        Set<String> names = new TreeSet<>();
        Set<String> got = new TreeSet<>();
        for (Method m : type.getDeclaredMethods()) {
            if (Modifier.isPublic(m.getModifiers())) {
                got.add(told(m));
                names.add(m.getName());
            }
        }
        for (String one : want) {
            check.due("there is " + one, got.contains(one), true);
        }
        for (String one : got) {
            check.due("the face has " + one, want.contains(one), true);
        }
        lookAtPrivate(check, type, names);
        for (Field f : type.getDeclaredFields()) {
            boolean isNone = f.getName().equals("NONE");
            check.due("field " + f.getName() + " is private", Modifier.isPrivate(f.getModifiers()), !isNone);
        }
        Field none = type.getField("NONE");
        check.due("NONE is a constant", none.getModifiers(), Modifier.PUBLIC | Modifier.STATIC | Modifier.FINAL);
        check.due("NONE", none.getInt(null), -1);
        Constructor<?>[] made = type.getDeclaredConstructors();
        check.due("constructors", made.length, 1);
        check.due("the constructor is public", Modifier.isPublic(made[0].getModifiers()), true);
        check.due("the constructor's arguments", made[0].getParameterCount(), 0);
        check.finish();
    }

    private static void lookAtPrivate(Check check, Class<?> type, Set<String> names) {
        for (Method m : type.getDeclaredMethods()) {
            if (!Modifier.isPublic(m.getModifiers())) {
                check.due(m + " is private", Modifier.isPrivate(m.getModifiers()), true);
                check.due(m + " bears no public name", names.contains(m.getName()), false);
            }
        }
        check.due("some twelve classes", type.getDeclaredClasses().length <= 12, true);
        for (Class<?> inside : type.getDeclaredClasses()) {
            check.due(inside + " is static", Modifier.isStatic(inside.getModifiers()), true);
            int fields = 0;
            for (Field f : inside.getDeclaredFields()) {
                if (!Modifier.isStatic(f.getModifiers())) {
                    fields++;
                } else {
                    check.due(f + " is final", Modifier.isFinal(f.getModifiers()), true);
                }
            }
            check.due(inside + " has some twenty fields", fields <= 20, true);
            for (Method m : inside.getDeclaredMethods()) {
                check.due(m + " bears no public name", names.contains(m.getName()), false);
                check.due(m + " takes seven at most", m.getParameterCount() <= 7, true);
            }
        }
    }

    private static String told(Method m) {
        StringBuilder text = new StringBuilder();
        text.append(m.getReturnType().getName()).append(' ').append(m.getName()).append('(');
        for (int i = 0; i < m.getParameterCount(); i++) {
            text.append(i == 0 ? "" : ",").append(m.getParameterTypes()[i].getName());
        }
        return text.append(')').toString();
    }
}
