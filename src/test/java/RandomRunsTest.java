import java.lang.reflect.InvocationTargetException;
import java.lang.reflect.Method;
import java.util.ArrayList;
import java.util.Arrays;
import java.util.List;
import java.util.Random;

/**
 * All promises: runs of calls from a seed that is told, each of them made on the class and on the
 * model, which must answer alike. Numbers are taken from a few, so that clashes are common.
 */
public final class RandomRunsTest {
    private static final int CALLS = 200;
    private static final String[] ASKING = {"size", "host", "name", "holder", "clash", "plans", "rule", "decides",
        "allows", "reach", "freeNumber", "whyNot", "conflict", "rewrites", "clashesIn", "openIn", "movedShare",
        "meanReach", "formattedByte", "undoCount", "errorPosition"};
    private static final String[] DOING = {"addHost", "addHost", "removeHost", "plan", "plan", "plan", "plan", "unplan",
        "settle", "wave", "wave", "wave", "wave", "back", "back", "open", "open", "close", "addRule", "addRule",
        "removeRule", "setKeep", "setKeep", "setPinned", "format", "undo", "saveSnapshot", "restoreSnapshot"};

    private static Random random;
    private static NetMerge program;
    private static Model model;
    private static int span;
    private static final List<String> told = new ArrayList<>();

    public static void main(String[] args) throws ReflectiveOperationException {
        int runs = args.length > 0 ? Integer.parseInt(args[0]) : 1500;
        int first = args.length > 1 ? Integer.parseInt(args[1]) : 1;
        for (int seed = first; seed < first + runs; seed++) {
            if (!run(seed)) {
                Check.due("the run of seed " + seed, "differs", "the same answers");
                for (String line : told) {
                    System.out.println("  " + line);
                }
                break;
            }
        }
        Check.due("runs were made", runs > 0, true);
        Check.end("RandomRunsTest");
    }

    private static boolean run(int seed) throws ReflectiveOperationException {
        random = new Random(seed);
        program = new NetMerge();
        model = new Model();
        span = new int[] {6, 15, 50, 250}[random.nextInt(4)];
        told.clear();
        boolean alike = random.nextInt(4) == 0 || read("load", text());
        alike = alike && (random.nextInt(6) != 0 || crowded());
        for (int call = 0; alike && call < CALLS; call++) {
            int kind = random.nextInt(100);
            if (kind < 2) {
                alike = read("load", random.nextBoolean() ? text() : spoilt(text()));
            } else if (kind < 12) {
                alike = read("query", random.nextInt(4) > 0 ? query() : spoilt(query()));
            } else if (kind < 45) {
                alike = both(ASKING[random.nextInt(ASKING.length)]);
            } else {
                alike = both(DOING[random.nextInt(DOING.length)]);
            }
            alike = alike && sameState();
        }
        return alike;
    }

    /** Fills up hosts and rules to what there may be at most. */
    private static boolean crowded() throws ReflectiveOperationException {
        boolean alike = true;
        span = 60;
        for (int i = 0; alike && i < 200 && program.size(0) < 40; i++) {
            alike = both("addHost");
        }
        for (int i = 0; alike && i < 100 && program.size(1) < 30; i++) {
            alike = both("addRule");
        }
        return alike && sameState();
    }

    private static boolean both(String name) throws ReflectiveOperationException {
        for (Method method : NetMerge.class.getDeclaredMethods()) {
            if (method.getName().equals(name)) {
                return both(method, arguments(name, method.getParameterTypes()));
            }
        }
        throw new NoSuchMethodException(name);
    }

    private static boolean both(Method method, Object... arguments) throws ReflectiveOperationException {
        Object got = answer(method, program, arguments);
        Method there = Model.class.getDeclaredMethod(method.getName(), method.getParameterTypes());
        Object want = answer(there, model, arguments);
        boolean alike = got == null ? want == null : got.equals(want);
        told.add(method.getName() + Arrays.toString(arguments) + " -> " + got + (alike ? "" : ", the model " + want));
        return alike;
    }

    private static Object answer(Method method, Object object, Object[] arguments) throws ReflectiveOperationException {
        try {
            return method.invoke(object, arguments);
        } catch (InvocationTargetException e) {
            return "throws " + e.getCause().getClass();
        }
    }

    private static Object[] arguments(String name, Class<?>[] types) {
        Object[] all = new Object[types.length];
        for (int i = 0; i < types.length; i++) {
            all[i] = types[i] == boolean.class ? (Object) random.nextBoolean() : (Object) argument(name, i);
        }
        return all;
    }

    private static int argument(String name, int place) {
        if (random.nextInt(60) == 0) {
            int[] odd = {-1, 0, 2, 10, 41, 250, 251, Integer.MIN_VALUE, Integer.MAX_VALUE};
            return odd[random.nextInt(odd.length)];
        }
        int hosts = Math.max(1, program.size(0));
        switch (name) {
            case "size": return random.nextInt(11);
            case "clash": return random.nextInt(4);
            case "plans": return 1 + random.nextInt(9);
            case "setKeep": return random.nextInt(4);
            case "formattedByte": return random.nextInt(20);
            case "clashesIn": return random.nextInt(random.nextBoolean() ? 4 : 10);
            case "rule":
            case "removeRule": return place == 0 ? random.nextInt(Math.max(1, program.size(1))) : random.nextInt(4);
            case "host": return place == 0 ? random.nextInt(hosts) : random.nextInt(7);
            case "name": return place == 0 ? random.nextInt(hosts) : random.nextInt(9);
            case "plan": return place == 0 ? random.nextInt(hosts) : place == 1 ? number() : wave();
            case "addRule": return place == 0 ? random.nextInt(2) : random.nextInt(4) == 0 ? 0 : number();
            case "addHost":
            case "holder":
            case "decides":
            case "allows": return place == 0 ? random.nextInt(2) : number();
            default: return random.nextInt(hosts);
        }
    }

    private static int number() {
        if (random.nextInt(3) == 0 && program.size(0) > 0) {
            return program.host(random.nextInt(program.size(0)), 1);
        }
        return 1 + random.nextInt(span);
    }

    private static int wave() {
        return random.nextInt(3) == 0 ? 1 + random.nextInt(9) : Math.min(9, program.size(3) + 1 + random.nextInt(3));
    }

    private static boolean read(String name, String text) throws ReflectiveOperationException {
        int length = Math.min(text.length(), name.equals("query") ? 200 : 900);
        Method feed = NetMerge.class.getDeclaredMethod("feed", int.class, int.class, int.class, int.class, int.class);
        for (int at = 0; at < length; at += 20) {
            Object[] words = new Object[5];
            for (int i = 0; i < 5; i++) {
                int word = 0;
                for (int j = at + 4 * i; j < at + 4 * i + 4; j++) {
                    word = word << 8 | (j < length ? text.charAt(j) & 255 : ' ');
                }
                words[i] = word;
            }
            if (!both(feed, words)) {
                return false;
            }
        }
        told.add("which is the text \"" + text.substring(0, length) + "\"");
        int asked = random.nextInt(40) == 0 ? random.nextInt(length + 40) - 5 : length;
        return both(NetMerge.class.getDeclaredMethod(name, int.class), asked) && sameState();
    }

    private static boolean sameState() throws ReflectiveOperationException {
        StringBuilder got = new StringBuilder();
        StringBuilder want = new StringBuilder();
        for (int what = 0; what <= 10; what++) {
            got.append(program.size(what)).append(' ');
            want.append(model.size(what)).append(' ');
        }
        for (int host = 0; host < Math.min(program.size(0), model.size(0)); host++) {
            for (int what = 0; what <= 6; what++) {
                got.append(program.host(host, what)).append(' ');
                want.append(model.host(host, what)).append(' ');
            }
            got.append((char) program.name(host, 0)).append(program.name(host, 7)).append(',');
            want.append((char) model.name(host, 0)).append(model.name(host, 7)).append(',');
        }
        for (int rule = 0; rule < Math.min(program.size(1), model.size(1)); rule++) {
            for (int what = 0; what <= 3; what++) {
                got.append(program.rule(rule, what)).append(' ');
                want.append(model.rule(rule, what)).append(' ');
            }
        }
        for (int index = 0; index < 30; index++) {
            got.append(program.formattedByte(index)).append(' ');
            want.append(model.formattedByte(index)).append(' ');
        }
        got.append(program.undoCount()).append(' ').append(program.errorPosition());
        want.append(model.undoCount()).append(' ').append(model.errorPosition());
        if (!got.toString().equals(want.toString())) {
            told.add("then the program is " + got);
            told.add("   but the model is " + want);
            return false;
        }
        return true;
    }

    private static String text() {
        StringBuilder text = new StringBuilder("nets");
        if (random.nextBoolean()) {
            text.append(" keep ").append(random.nextInt(4));
        }
        if (random.nextBoolean()) {
            text.append(" per ").append(1 + random.nextInt(9));
        }
        if (random.nextBoolean()) {
            int from = 1 + random.nextInt(span);
            text.append(" pool ").append(from).append(' ').append(Math.min(250, from + random.nextInt(span)));
        }
        text.append(";");
        List<String> names = new ArrayList<>();
        List<Integer> taken = new ArrayList<>();
        int clauses = random.nextInt(random.nextInt(3) == 0 ? 60 : 25);
        for (int i = 0; i < clauses; i++) {
            int kind = random.nextInt(4);
            if (kind < 2) {
                addHostClause(text, names, taken);
            } else if (kind == 2) {
                text.append("rule ").append(random.nextInt(2)).append(random.nextBoolean() ? " allow" : " deny");
                text.append(side()).append(side()).append(";");
            } else if (!names.isEmpty()) {
                String name = names.remove(random.nextInt(names.size()));
                text.append("move ").append(name).append(' ').append(1 + random.nextInt(span)).append(' ');
                text.append(1 + random.nextInt(9)).append(";");
            }
        }
        return text.toString();
    }

    private static void addHostClause(StringBuilder text, List<String> names, List<Integer> taken) {
        int office = random.nextInt(2);
        int number = 1 + random.nextInt(span);
        boolean spoil = random.nextInt(100) == 0;
        if (taken.contains(office * 1000 + number) && !spoil) {
            return;
        }
        taken.add(office * 1000 + number);
        StringBuilder name = new StringBuilder();
        for (int length = 1 + random.nextInt(3); name.length() < length;) {
            name.append((char) ('a' + random.nextInt(26)));
        }
        boolean pinned = random.nextInt(6) == 0;
        text.append("host ").append(name).append(' ').append(office).append(' ').append(number);
        text.append(pinned ? " pinned;" : ";");
        if (!pinned || spoil) {
            names.add(name.toString());
        }
    }

    private static String side() {
        return random.nextInt(3) == 0 ? " any" : " " + (1 + random.nextInt(span));
    }

    private static String query() {
        return (random.nextBoolean() ? "many " : "first ") + test(0);
    }

    private static String test(int depth) {
        StringBuilder text = new StringBuilder(factor(depth));
        while (random.nextInt(3) == 0) {
            text.append(random.nextBoolean() ? " and " : " or ").append(factor(depth));
        }
        return text.toString();
    }

    private static String factor(int depth) {
        int kind = random.nextInt(7);
        if (kind < 2 && depth < 8) {
            return "not " + factor(depth + 1);
        }
        if (kind < 4 && depth < 8) {
            return "(" + test(depth + 1) + ")";
        }
        return value() + "<=>".charAt(random.nextInt(3)) + value();
    }

    private static String value() {
        String[] known = {"host", "office", "number", "old", "pinned", "planned", "wave", "clash", "reach"};
        return random.nextInt(3) == 0 ? "" + random.nextInt(random.nextBoolean() ? 4 : 60)
                : known[random.nextInt(known.length)];
    }

    /** The text with a token or byte changed, gone or put in. */
    private static String spoilt(String text) {
        String[] bits = {";", " ", "\n", "x", "0", "9", "250", "251", "10000", "any", "host", "rule", "move", "pinned",
            "(", ")", "<", "=", ">", "not ", " and ", " or ", "\u00e9", "A", "many", "nets", "per", "keep", "abcdefghi"};
        String bit = bits[random.nextInt(bits.length)];
        int at = random.nextInt(text.length() + 1);
        int end = Math.min(text.length(), at + random.nextInt(3));
        return text.substring(0, at) + (random.nextInt(4) == 0 ? "" : bit) + text.substring(end);
    }
}
