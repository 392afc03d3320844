import java.lang.reflect.Constructor;
import java.lang.reflect.Field;
import java.lang.reflect.Method;
import java.lang.reflect.Modifier;
import java.util.Arrays;
import java.util.HashSet;
import java.util.Set;
import java.util.TreeSet;

/** The public face is the document's and nothing more; calls make no objects. */
public final class FaceTest {
    private static final String[] FACE = {
        "int feed(int,int,int,int,int)",
        "int board(int) IllegalArgumentException",
        "int fault()",
        "int count(int) NoSuchElementException",
        "int corner(int) NoSuchElementException",
        "int tile(int,int) NoSuchElementException",
        "int across(int,int) NoSuchElementException",
        "int name(int,int) NoSuchElementException",
        "long ways(int) NoSuchElementException",
        "int ring(int) NoSuchElementException",
        "long growth(int) NoSuchElementException",
        "long walks(int,int) NoSuchElementException IllegalArgumentException",
        "long home(int) IllegalArgumentException",
        "long far(int,int) NoSuchElementException IllegalArgumentException",
        "int walk(int,long,int) NoSuchElementException IllegalArgumentException",
        "int move(int,int) NoSuchElementException",
        "int order(int) NoSuchElementException",
        "int back(int) NoSuchElementException",
        "int apart(int,int) NoSuchElementException",
        "int side(int) NoSuchElementException",
        "int closed(int,int) NoSuchElementException IllegalArgumentException",
        "int first(int,int,int) NoSuchElementException IllegalArgumentException",
        "int steps(int) IllegalArgumentException",
        "int ant(int) NoSuchElementException",
        "boolean undo()",
        "boolean redo()",
        "void image()",
        "boolean restore()",
    };
    private static final Due DUE = new Due();

    public static void main(String[] args) {
        faceIsTheDocuments();
        namesAreApart();
        callsMakeNothing();
        DUE.end();
    }

    private static void faceIsTheDocuments() {
        Set<String> methods = new TreeSet<>();
        for (Method method : FarBoard.class.getDeclaredMethods()) {
            if (!Modifier.isPrivate(method.getModifiers())) {
                methods.add(described(method));
                DUE.same(method + " is public", Modifier.isPublic(method.getModifiers()), true);
            }
        }
        DUE.same("the methods", methods, new TreeSet<>(Arrays.asList(FACE)));
        for (Field field : FarBoard.class.getDeclaredFields()) {
            boolean isConstant = field.getName().equals("NONE");
            DUE.same(field + " is private or NONE", Modifier.isPrivate(field.getModifiers()), !isConstant);
        }
        Constructor<?>[] constructors = FarBoard.class.getDeclaredConstructors();
        DUE.same("one constructor", constructors.length, 1);
        DUE.same("a final class", Modifier.isFinal(FarBoard.class.getModifiers()), true);
        for (Class<?> inside : FarBoard.class.getDeclaredClasses()) {
            DUE.same(inside + " is private and static", Modifier.isPrivate(inside.getModifiers())
                    && Modifier.isStatic(inside.getModifiers()), true);
            DUE.same(inside + " has few fields", inside.getDeclaredFields().length <= 30, true);
        }
    }

    private static String described(Method method) {
        StringBuilder text = new StringBuilder(method.getReturnType() + " " + method.getName() + "(");
        Class<?>[] types = method.getParameterTypes();
        for (int i = 0; i < types.length; i++) {
            text.append(i == 0 ? "" : ",").append(types[i]);
        }
        text.append(")");
        for (Class<?> type : method.getExceptionTypes()) {
            text.append(" ").append(type.getSimpleName());
        }
        return text.toString();
    }

    private static void namesAreApart() {
        Set<String> names = new HashSet<>();
        for (Method method : FarBoard.class.getDeclaredMethods()) {
            if (Modifier.isPublic(method.getModifiers())) {
                names.add(method.getName());
            }
        }
        for (Method method : FarBoard.class.getDeclaredMethods()) {
            DUE.same(method + " bears a name of its own",
                    !Modifier.isPublic(method.getModifiers()) && names.contains(method.getName()), false);
        }
        for (Class<?> inside : FarBoard.class.getDeclaredClasses()) {
            for (Method method : inside.getDeclaredMethods()) {
                DUE.same(method + " bears a name of its own", names.contains(method.getName()), false);
            }
        }
    }

    /** A run lives in one room: what the constructor makes must do for all calls. */
    private static void callsMakeNothing() {
        com.sun.management.ThreadMXBean memory =
                (com.sun.management.ThreadMXBean) java.lang.management.ManagementFactory.getThreadMXBean();
        allCalls(new FarBoard());
        long thread = Thread.currentThread().getId();
        long before = memory.getThreadAllocatedBytes(thread);
        FarBoard board = new FarBoard();
        long made = memory.getThreadAllocatedBytes(thread) - before;
        allCalls(board);
        long more = memory.getThreadAllocatedBytes(thread) - before - made;
        DUE.same("a new object takes " + made + " bytes, few enough", made < 400_000, true);
        DUE.same("calls take " + more + " bytes, few enough", more < 1000, true);
    }

    private static void allCalls(FarBoard x) {
        for (int i = 0; i < 3; i++) {
            x.feed(1668248174, 1701999392, 840970784, 840970784, 840970784);
            x.feed(993093236, 540028960, 875774752, 538976288, 538976288);
            x.board(27);
            x.fault();
            x.count(1);
            x.corner(1);
            x.tile(100, 2);
            x.across(100, 2);
            x.name(100, 1);
            x.ways(100);
            x.ring(2);
            x.growth(5);
            x.walks(3, 10);
            x.home(4);
            x.far(3, 0);
            x.walk(0, 8, 2);
            x.move(10, 20);
            x.order(10);
            x.back(10);
            x.apart(10, 20);
            x.side(1);
            x.closed(4, 2);
            x.closed(6, 0);
            x.steps(30);
            x.ant(0);
            x.undo();
            x.redo();
            x.image();
            x.restore();
        }
    }
}
