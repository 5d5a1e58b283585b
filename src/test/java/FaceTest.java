import java.lang.management.ManagementFactory;
import java.lang.reflect.Constructor;
import java.lang.reflect.Field;
import java.lang.reflect.Method;
import java.lang.reflect.Modifier;
import java.util.Arrays;
import java.util.Set;
import java.util.TreeSet;

/** The face is the document's and no more, and calls make no objects, so that a run stays in its room. */
public final class FaceTest {
    private static int wrong = 0;

    private static void expect(String what, Object got, Object due) {
        if (!got.equals(due)) {
            wrong++;
            System.out.println(what + " is " + got + ", due is " + due);
        }
    }

    private static void face() {
        Set<String> due = new TreeSet<>(Arrays.asList("write 1", "wipe 0", "fault 0", "lay 0", "named 1", "check 3",
            "kept 2", "sign 3", "swap 2", "host 3", "undo 0", "name 2", "letter 2", "rule 3", "hostOf 2", "many 3",
            "dead 2", "lookups 4", "leads 1", "count 1"));
        Set<String> got = new TreeSet<>();
        for (Method m : SendRules.class.getDeclaredMethods()) {
            if (!Modifier.isPrivate(m.getModifiers()) && !m.isSynthetic()) {
                got.add(m.getName() + " " + m.getParameterCount());
                expect(m.getName() + "'s modifiers", m.getModifiers(), Modifier.PUBLIC);
                expect(m.getName() + "'s answer", m.getReturnType(), int.class);
                for (Class<?> type : m.getParameterTypes()) {
                    expect(m.getName() + "'s parameter", type, int.class);
                }
            }
        }
        expect("the set of methods", got, due);
        Set<String> fields = new TreeSet<>();
        for (Field f : SendRules.class.getDeclaredFields()) {
            if (!Modifier.isPrivate(f.getModifiers())) {
                fields.add(f.getName());
                expect(f.getName() + "'s modifiers", f.getModifiers(), Modifier.PUBLIC | Modifier.STATIC | Modifier.FINAL);
            }
        }
        expect("the set of fields", fields, new TreeSet<>(Arrays.asList("BAD", "NO", "NONE", "FULL")));
        Constructor<?>[] made = SendRules.class.getDeclaredConstructors();
        expect("the number of constructors", made.length, 1);
        expect("the constructor", made[0].getModifiers() + made[0].getParameterCount(), Modifier.PUBLIC);
        expect("the class", SendRules.class.getModifiers(), Modifier.PUBLIC | Modifier.FINAL);
    }

    private static long allocated() {
        return ((com.sun.management.ThreadMXBean) ManagementFactory.getThreadMXBean()).getCurrentThreadAllocatedBytes();
    }

    /** Policies that use all lookups for each address. */
    private static SendRules costly() {
        SendRules x = new SendRules();
        String text = "naaaaaaa:?e%s%-7d%o%l%d%s%o%d,?maaaaaaa,?iaaaaaaa;xaaaaaaa:a,b,c;aa:1,2,3,4;ab:5,6,7,8;";
        for (int k = 0; k < text.length(); k++) {
            x.write(text.charAt(k));
        }
        x.lay();
        return x;
    }

    private static int useAll(SendRules x) {
        int sum = x.fault() + x.lay() + x.wipe() + x.write('a') + x.named(1);
        for (int k = 0; k < 20; k++) {
            sum += x.check(k & 1, k, 1) + x.kept(0, 4) + x.sign(0, 0, k & 3) + x.swap(0, 0);
            sum += x.host(1, k, 1) + x.host(1, k, 0) + x.undo() + x.name(0, 4) + x.letter(0, 1) + x.rule(0, 1, 4);
            sum += x.hostOf(0, 0) + x.many(0, 3, 5) + x.dead(0, 3) + x.lookups(0, 3, 1, k & 1) + x.leads(0) + x.count(3);
        }
        return sum;
    }

    private static void room() {
        allocated();
        useAll(costly());
        SendRules x = costly();
        long before = allocated();
        useAll(x);
        long used = allocated() - before;
        expect("that calls make no objects (" + used + " bytes)", used < 20_000, true);
        before = allocated();
        new SendRules();
        used = allocated() - before;
        expect("that the constructor stays small (" + used + " bytes)", used < 200_000, true);
    }

    public static void main(String[] args) {
        face();
        room();
        System.out.println(wrong == 0 ? "the face is as due" : wrong + " things are not as due");
        if (wrong != 0) {
            System.exit(1);
        }
    }
}
