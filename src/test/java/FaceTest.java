import java.lang.reflect.Constructor;
import java.lang.reflect.Field;
import java.lang.reflect.Method;
import java.lang.reflect.Modifier;
import java.util.ArrayList;
import java.util.Arrays;
import java.util.List;
import java.util.TreeSet;

/** The public face: what it has, and that it has nothing else. */
public final class FaceTest {
    private static final String[] FACE = {
        "int feed(int,int,int,int,int)",
        "int load(int) throws IllegalArgumentException",
        "int errorPosition()",
        "int size(int) throws NoSuchElementException",
        "int host(int,int) throws NoSuchElementException",
        "int name(int,int) throws NoSuchElementException",
        "int holder(int,int) throws NoSuchElementException,IllegalArgumentException",
        "int clash(int) throws NoSuchElementException",
        "int plans(int) throws IllegalArgumentException",
        "int rule(int,int) throws NoSuchElementException",
        "int decides(int,int,int) throws NoSuchElementException,IllegalArgumentException",
        "boolean allows(int,int,int) throws NoSuchElementException,IllegalArgumentException",
        "int reach(int) throws NoSuchElementException",
        "int freeNumber()",
        "int whyNot()",
        "int conflict()",
        "int rewrites()",
        "int clashesIn(int) throws IllegalArgumentException",
        "int openIn()",
        "float movedShare()",
        "double meanReach()",
        "int addHost(int,int) throws NoSuchElementException,IllegalArgumentException",
        "int removeHost(int) throws NoSuchElementException",
        "int plan(int,int,int) throws NoSuchElementException,IllegalArgumentException",
        "int unplan(int) throws NoSuchElementException",
        "int settle()",
        "int wave()",
        "int back()",
        "int open()",
        "int close()",
        "int addRule(int,boolean,int,int) throws NoSuchElementException,IllegalArgumentException",
        "int removeRule(int) throws NoSuchElementException",
        "int setKeep(int) throws IllegalArgumentException",
        "int setPinned(int,boolean) throws NoSuchElementException",
        "int format(int) throws NoSuchElementException",
        "int formattedByte(int)",
        "int undoCount()",
        "int undo()",
        "void saveSnapshot()",
        "boolean restoreSnapshot()",
        "int query(int) throws IllegalArgumentException",
    };

    public static void main(String[] args) {
        methods();
        constants();
        constructor();
        Check.end("FaceTest");
    }

    private static void methods() {
        List<String> open = new ArrayList<>();
        List<String> hidden = new ArrayList<>();
        for (Method method : NetMerge.class.getDeclaredMethods()) {
            if (Modifier.isPrivate(method.getModifiers())) {
                hidden.add(method.getName());
            } else {
                Check.due(method.getName() + " is public and of the object", method.getModifiers(), Modifier.PUBLIC);
                open.add(signature(method));
            }
        }
        Check.due("the methods of the face", new TreeSet<>(open), new TreeSet<>(Arrays.asList(FACE)));
        for (String line : FACE) {
            String name = line.substring(line.indexOf(' ') + 1, line.indexOf('('));
            Check.due("a private method named " + name, hidden.contains(name), false);
        }
    }

    private static String signature(Method method) {
        List<String> types = new ArrayList<>();
        for (Class<?> type : method.getParameterTypes()) {
            types.add(type.getSimpleName());
        }
        List<String> thrown = new ArrayList<>();
        for (Class<?> type : method.getExceptionTypes()) {
            thrown.add(type.getSimpleName());
        }
        return method.getReturnType().getSimpleName() + " " + method.getName() + "(" + String.join(",", types) + ")"
                + (thrown.isEmpty() ? "" : " throws " + String.join(",", thrown));
    }

    private static void constants() {
        Check.due("NONE", NetMerge.NONE, -1);
        Check.due("HIDDEN", NetMerge.HIDDEN, -1000000000);
        for (Field field : NetMerge.class.getDeclaredFields()) {
            boolean named = field.getName().equals("NONE") || field.getName().equals("HIDDEN");
            int modifiers = field.getModifiers();
            Check.due(field.getName() + " is private unless the document names it", Modifier.isPrivate(modifiers), !named);
            Check.due(field.getName() + " is final if it is static",
                    !Modifier.isStatic(modifiers) || Modifier.isFinal(modifiers), true);
        }
    }

    private static void constructor() {
        Constructor<?>[] all = NetMerge.class.getDeclaredConstructors();
        Check.due("constructors", all.length, 1);
        Check.due("parameters of the constructor", all[0].getParameterCount(), 0);
        Check.due("the constructor is public", all[0].getModifiers(), Modifier.PUBLIC);
        Check.due("the class is public and final", NetMerge.class.getModifiers(), Modifier.PUBLIC | Modifier.FINAL);
        Check.due("the class above", NetMerge.class.getSuperclass(), Object.class);
    }
}
