import java.lang.reflect.Constructor;
import java.lang.reflect.Method;
import java.lang.reflect.Modifier;
import java.util.Arrays;
import java.util.Set;
import java.util.TreeSet;

/** The public face is the document's, and no more. */
public final class FaceTest {
    private static final String INDEX = "IndexOutOfBoundsException";
    private static final String SUCH = "NoSuchElementException";
    private static final String FIT = "IllegalArgumentException";
    private static final String SOLD = "IllegalStateException";

    public static void main(String[] args) {
        Checks.due("NONE", FlickedCrates.NONE, -1);
        Checks.due("final and public", FlickedCrates.class.getModifiers(), Modifier.PUBLIC | Modifier.FINAL);
        Constructor<?>[] made = FlickedCrates.class.getDeclaredConstructors();
        Checks.due("constructors", made.length, 1);
        Checks.due("its numbers", made[0].getParameterCount(), 0);
        Set<String> got = new TreeSet<>();
        for (Method m : FlickedCrates.class.getDeclaredMethods()) {
            if (!Modifier.isPrivate(m.getModifiers())) {
                got.add(told(m));
            }
        }
        same("methods", got, due());
        Checks.due("fields of the face",
                Arrays.stream(FlickedCrates.class.getDeclaredFields()).filter(f -> !Modifier.isPrivate(f.getModifiers())).count(), 1);
        Checks.end();
    }

    private static String told(Method m) {
        StringBuilder text = new StringBuilder(m.getReturnType() + " " + m.getName() + " " + m.getParameterCount());
        for (Class<?> number : m.getParameterTypes()) {
            Checks.due(m.getName() + " takes int", number == int.class ? 1 : 0, 1);
        }
        Arrays.stream(m.getExceptionTypes()).map(Class::getSimpleName).sorted().forEach(e -> text.append(' ').append(e));
        return text.toString();
    }

    private static void same(String what, Set<String> got, Set<String> due) {
        for (String one : due) {
            Checks.due(what + ", due: " + one, got.contains(one) ? 1 : 0, 1);
        }
        for (String one : got) {
            Checks.due(what + ", there: " + one, due.contains(one) ? 1 : 0, 1);
        }
    }

    private static void add(Set<String> all, String call, String... thrown) {
        Arrays.sort(thrown);
        all.add(call + (thrown.length == 0 ? "" : " " + String.join(" ", thrown)));
    }

    private static Set<String> due() {
        Set<String> all = new TreeSet<>();
        for (String call : new String[] {"feed 5", "fault 0", "day 1", "pace 0", "sort 0", "off 0", "changes 0", "changed 1",
            "divider 1", "image 0", "restore 0", "status 1", "count 1"}) {
            add(all, "int " + call);
        }
        for (String call : new String[] {"shop 1", "told 1", "missed 1", "would 2", "hidden 1", "round 1", "basket 2", "often 4",
            "moves 1", "rests 5"}) {
            add(all, "int " + call, FIT);
        }
        add(all, "int crate 2", INDEX, FIT);
        add(all, "int row 2", INDEX);
        add(all, "int sleeve 2", SUCH, FIT);
        add(all, "int looker 2", SUCH, FIT);
        add(all, "int lay 2", INDEX, SUCH, SOLD);
        add(all, "int change 2", SUCH, FIT);
        add(all, "int wander 2", INDEX, FIT);
        add(all, "int buys 3", SUCH, FIT);
        add(all, "int then 2", SUCH);
        add(all, "long odds 4", INDEX, SUCH, FIT, SOLD);
        add(all, "int order 4", SUCH, FIT, SOLD);
        add(all, "long mean 4", SUCH, FIT, SOLD);
        return all;
    }
}
