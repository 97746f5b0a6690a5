import java.lang.management.ManagementFactory;
import java.lang.reflect.Constructor;
import java.lang.reflect.Field;
import java.lang.reflect.Method;
import java.lang.reflect.Modifier;
import java.util.Set;
import java.util.TreeSet;

/** The public face as the document writes it, and that calls leave the room as it is. */
public final class FaceTest {
    private static final String IAE = " IllegalArgumentException";
    private static final String ISE = " IllegalStateException";
    private static final String NSE = " NoSuchElementException";
    private static final String[] FACE = {
        "int candidates(int)" + IAE,
        "int ballot(int,int)" + IAE + ISE,
        "int amount(int,int)" + NSE + IAE,
        "int drop(int)" + NSE,
        "int tieOrder(int)" + IAE,
        "int agenda(int)" + IAE,
        "int weight(int,int)" + NSE + IAE,
        "int winners(int)" + NSE,
        "int winner(int)" + NSE,
        "long score(int,int)" + NSE + IAE,
        "int pair(int,int)" + NSE,
        "int path(int,int)" + NSE,
        "int branches()",
        "int step(int)" + NSE,
        "long disagreement()",
        "int agreed()",
        "int change(int,int,int)" + NSE + IAE,
        "int changed()",
        "boolean property(int,int)" + NSE,
        "int witness()",
        "int circle(int)" + NSE,
        "boolean clones(int)" + IAE,
        "int count(int)" + IAE};

    private FaceTest() {
    }

    public static void main(String[] args) {
        methods();
        othersArePrivate();
        callsMakeNothing();
        Check.end();
    }

    private static void methods() {
        Set<String> due = new TreeSet<>(Set.of(FACE));
        Set<String> got = new TreeSet<>();
        for (Method method : BallotDesk.class.getDeclaredMethods()) {
            if (Modifier.isPublic(method.getModifiers())) {
                got.add(told(method));
            }
        }
        Check.due("methods " + got + " are as due", got.equals(due), true);
    }

    private static String told(Method method) {
        StringBuilder told = new StringBuilder(method.getReturnType().getName());
        told.append(' ').append(method.getName()).append('(');
        for (int k = 0; k < method.getParameterCount(); k++) {
            told.append(k == 0 ? "" : ",").append(method.getParameterTypes()[k].getName());
        }
        told.append(')');
        for (Class<?> thrown : method.getExceptionTypes()) {
            told.append(' ').append(thrown.getSimpleName());
        }
        return told.toString();
    }

    private static void othersArePrivate() {
        Set<String> names = new TreeSet<>();
        for (String line : FACE) {
            names.add(line.substring(line.indexOf(' ') + 1, line.indexOf('(')));
        }
        for (Method method : BallotDesk.class.getDeclaredMethods()) {
            boolean shown = Modifier.isPublic(method.getModifiers());
            Check.due(method + " is public or private", shown || Modifier.isPrivate(method.getModifiers()), true);
            Check.due(method + " has a name of its own", shown || !names.contains(method.getName()), true);
        }
        for (Field field : BallotDesk.class.getDeclaredFields()) {
            boolean isNone = field.getName().equals("NONE");
            Check.due(field + " is private", Modifier.isPrivate(field.getModifiers()), !isNone);
            boolean fixed = Modifier.isFinal(field.getModifiers());
            Check.due(field + " is final if static", fixed || !Modifier.isStatic(field.getModifiers()), true);
        }
        for (Constructor<?> made : BallotDesk.class.getDeclaredConstructors()) {
            Check.due(made + " takes nothing", made.getParameterCount(), 0);
            Check.due(made + " is public", Modifier.isPublic(made.getModifiers()), true);
        }
        for (Class<?> inside : BallotDesk.class.getDeclaredClasses()) {
            Check.due(inside + " is static", Modifier.isStatic(inside.getModifiers()), true);
            Check.due(inside + " is not public", Modifier.isPublic(inside.getModifiers()), false);
            for (Method method : inside.getDeclaredMethods()) {
                Check.due(method + " has a name of its own", names.contains(method.getName()), false);
            }
        }
        Check.due("the class is final", Modifier.isFinal(BallotDesk.class.getModifiers()), true);
        Check.due("the class is public", Modifier.isPublic(BallotDesk.class.getModifiers()), true);
    }

    /** A run of the dearest calls: were it to make but one object for each order tried, it would show. */
    private static void callsMakeNothing() {
        BallotDesk desk = new BallotDesk();
        desk.candidates(7);
        for (int type = 0; type < 20; type++) {
            int turn = type % 7;
            int[] row = new int[7];
            for (int place = 0; place < 7; place++) {
                row[place] = (place * (1 + type % 6) + turn) % 7;
            }
            desk.ballot(Check.order(row), 2 + type * 3);
        }
        useAll(desk);
        long before = allocated();
        for (int run = 0; run < 5; run++) {
            useAll(desk);
        }
        long made = allocated() - before;
        Check.due("calls made " + made + " bytes: under 5000", made < 5000, true);
    }

    private static void useAll(BallotDesk desk) {
        for (int rule = 0; rule < 12; rule++) {
            desk.change(rule, rule, 2);
            for (int property = 0; property < 5; property++) {
                desk.property(rule, property);
            }
        }
        desk.branches();
        desk.step(6);
        desk.path(0, 1);
        desk.agreed();
        desk.disagreement();
        desk.clones(3);
        desk.circle(2);
    }

    private static long allocated() {
        com.sun.management.ThreadMXBean threads = (com.sun.management.ThreadMXBean) ManagementFactory.getThreadMXBean();
        return threads.getCurrentThreadAllocatedBytes();
    }
}
