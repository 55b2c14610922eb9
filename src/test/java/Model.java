import java.io.ByteArrayOutputStream;
import java.util.ArrayDeque;
import java.util.ArrayList;
import java.util.Collections;
import java.util.Deque;
import java.util.HashMap;
import java.util.HashSet;
import java.util.List;
import java.util.Map;
import java.util.NoSuchElementException;
import java.util.Set;
import java.util.TreeMap;
import java.util.TreeSet;

/**
 * The document once more, written down without any care for speed or space and in another form than
 * the class, so that random runs can be told to both. Its methods bear the names of the face.
 */
final class Model {
    private static final class Host {
        String name = "";
        int office;
        int number;
        boolean pinned;
        int[] plan;
        TreeMap<Integer, int[]> moves = new TreeMap<>();

        Host copy() {
            Host h = new Host();
            h.name = name;
            h.office = office;
            h.number = number;
            h.pinned = pinned;
            h.plan = plan == null ? null : plan.clone();
            h.moves = new TreeMap<>(moves);
            return h;
        }
    }

    private static final class Rule {
        int office;
        boolean allow;
        int[] sides;

        Rule(int office, boolean allow, int first, int second) {
            this.office = office;
            this.allow = allow;
            sides = new int[] {first, second};
        }
    }

    private static final class World {
        List<Host> hosts = new ArrayList<>();
        List<Rule> rules = new ArrayList<>();
        int waves = 0;
        int keep = 1;
        int per = 3;
        int from = 200;
        int to = 250;
        boolean open = false;

        World copy() {
            World w = new World();
            for (Host h : hosts) {
                w.hosts.add(h.copy());
            }
            for (Rule r : rules) {
                w.rules.add(new Rule(r.office, r.allow, r.sides[0], r.sides[1]));
            }
            w.waves = waves;
            w.keep = keep;
            w.per = per;
            w.from = from;
            w.to = to;
            w.open = open;
            return w;
        }

        Integer kept(Host h) {
            if (h.moves.isEmpty() || waves >= h.moves.lastKey() + keep) {
                return null;
            }
            return h.moves.lastEntry().getValue()[0];
        }

        Set<Integer> held(Host h) {
            Set<Integer> all = new HashSet<>();
            all.add(h.number);
            if (kept(h) != null) {
                all.add(kept(h));
            }
            return all;
        }

        List<Host> net(int office) {
            List<Host> all = new ArrayList<>();
            for (Host h : hosts) {
                if (open || h.office == office) {
                    all.add(h);
                }
            }
            return all;
        }

        TreeSet<Integer> twice() {
            TreeSet<Integer> all = new TreeSet<>();
            for (Host a : hosts) {
                for (Host b : net(a.office)) {
                    if (a != b) {
                        Set<Integer> both = held(a);
                        both.retainAll(held(b));
                        all.addAll(both);
                    }
                }
            }
            return all;
        }

        List<Integer> clashes() {
            Set<Integer> zero = new TreeSet<>();
            Set<Integer> one = new TreeSet<>();
            for (Host h : hosts) {
                (h.office == 0 ? zero : one).addAll(held(h));
            }
            zero.retainAll(one);
            return new ArrayList<>(zero);
        }

        int plansIn(int wave) {
            int n = 0;
            for (Host h : hosts) {
                if (h.plan != null && h.plan[1] == wave) {
                    n++;
                }
            }
            return n;
        }

        boolean matches(int office, int side, int number) {
            if (side == 0 || side == number) {
                return true;
            }
            for (Host h : net(office)) {
                if (held(h).contains(side) && held(h).contains(number)) {
                    return true;
                }
            }
            return false;
        }

        int decides(int office, int a, int b) {
            for (int i = 0; i < rules.size(); i++) {
                Rule r = rules.get(i);
                boolean ofNet = open || r.office == office;
                if (ofNet && matches(office, r.sides[0], a) && matches(office, r.sides[1], b)) {
                    return i;
                }
            }
            return -1;
        }

        int reach(Host h) {
            int n = 0;
            for (Host o : net(h.office)) {
                int rule = o == h ? -1 : decides(h.office, h.number, o.number);
                if (rule >= 0 && rules.get(rule).allow) {
                    n++;
                }
            }
            return n;
        }

        int free() {
            for (int n = from; n <= to; n++) {
                boolean taken = false;
                for (Host h : hosts) {
                    taken |= held(h).contains(n) || h.plan != null && h.plan[0] == n;
                }
                if (!taken) {
                    return n;
                }
            }
            return -1;
        }

        boolean keeperMoves() {
            for (Host h : hosts) {
                if (h.plan != null && h.plan[1] == waves + 1 && !h.moves.isEmpty()
                        && waves + 1 < h.moves.lastKey() + keep) {
                    return true;
                }
            }
            return false;
        }

        /** Old and new numbers of a net's moving hosts. */
        void rename(List<Host> movers, Map<Host, int[]> moves) {
            for (Rule r : rules) {
                for (int i = 0; i < 2; i++) {
                    int side = r.sides[i];
                    for (Host h : movers) {
                        if ((open || h.office == r.office) && moves.get(h)[0] == side) {
                            r.sides[i] = moves.get(h)[1];
                            break;
                        }
                    }
                }
            }
        }

        int forward() {
            waves++;
            List<Host> movers = new ArrayList<>();
            Map<Host, int[]> moves = new HashMap<>();
            for (Host h : hosts) {
                if (h.plan != null && h.plan[1] == waves) {
                    movers.add(h);
                    moves.put(h, new int[] {h.number, h.plan[0]});
                }
            }
            rename(movers, moves);
            for (Host h : movers) {
                h.moves.put(waves, moves.get(h));
                h.number = moves.get(h)[1];
                h.plan = null;
            }
            return movers.size();
        }

        void backward() {
            List<Host> movers = new ArrayList<>();
            Map<Host, int[]> moves = new HashMap<>();
            for (Host h : hosts) {
                int[] move = h.moves.remove(waves);
                if (move != null) {
                    movers.add(h);
                    moves.put(h, new int[] {move[1], move[0]});
                }
            }
            rename(movers, moves);
            for (Host h : movers) {
                int[] move = moves.get(h);
                if (h.plan == null && !h.pinned) {
                    h.plan = new int[] {move[0], waves};
                }
                h.number = move[1];
            }
            waves--;
        }

        int tryForward() {
            if (waves == 9) {
                return -2;
            }
            if (keeperMoves()) {
                return -3;
            }
            int n = forward();
            return twice().isEmpty() ? n : -4;
        }
    }

    private World now = new World();
    private World snapshot;
    private final Deque<World> past = new ArrayDeque<>();
    private ByteArrayOutputStream buffer = new ByteArrayOutputStream();
    private int errorAt = -1;
    private String line = "";

    private void record() {
        past.push(now.copy());
        while (past.size() > 10) {
            past.removeLast();
        }
    }

    private Host at(int host) {
        if (host < 0 || host >= now.hosts.size()) {
            throw new NoSuchElementException();
        }
        return now.hosts.get(host);
    }

    private static void office(int office) {
        if (office != 0 && office != 1) {
            throw new NoSuchElementException();
        }
    }

    private static void range(int value, int least, int most) {
        if (value < least || value > most) {
            throw new IllegalArgumentException();
        }
    }

    public int feed(int a, int b, int c, int d, int e) {
        if (buffer.size() + 20 > 900) {
            return -1;
        }
        for (int word : new int[] {a, b, c, d, e}) {
            buffer.write(word >> 24);
            buffer.write(word >> 16);
            buffer.write(word >> 8);
            buffer.write(word);
        }
        return buffer.size();
    }

    private String take(int length) {
        byte[] bytes = buffer.toByteArray();
        buffer = new ByteArrayOutputStream();
        StringBuilder text = new StringBuilder();
        for (int i = 0; i < length; i++) {
            text.append((char) (bytes[i] & 255));
        }
        return text.toString();
    }

    private static final class Wrong extends RuntimeException {
        private static final long serialVersionUID = 1L;
        final int code;
        final int position;

        Wrong(int code, int position) {
            this.code = code;
            this.position = position;
        }
    }

    /** Tokens of a text as strings; the one behind the last is empty. */
    private static final class Reader {
        final List<String> tokens = new ArrayList<>();
        final List<Integer> positions = new ArrayList<>();
        int next = 0;

        Reader(String text) {
            int i = 0;
            while (i < text.length()) {
                char c = text.charAt(i);
                int end = i + 1;
                if (c == ' ' || c == '\n') {
                    i++;
                    continue;
                }
                String run = c >= 'a' && c <= 'z' ? "[a-z]" : c >= '0' && c <= '9' ? "[0-9]" : null;
                while (run != null && end < text.length() && text.substring(end, end + 1).matches(run)) {
                    end++;
                }
                tokens.add(text.substring(i, end));
                positions.add(i);
                i = end;
            }
            tokens.add("");
            positions.add(text.length());
        }

        String peek() {
            return tokens.get(next);
        }

        Wrong wrong(int code) {
            return new Wrong(code, positions.get(next));
        }

        boolean skip(String token) {
            if (peek().equals(token)) {
                next++;
                return true;
            }
            return false;
        }

        void need(String token) {
            if (!skip(token)) {
                throw wrong(1);
            }
        }

        int look(int least, int most) {
            if (!peek().matches("[0-9]+")) {
                throw wrong(1);
            }
            java.math.BigInteger value = new java.math.BigInteger(peek());
            if (value.bitLength() > 20 || value.intValue() < least || value.intValue() > most) {
                throw wrong(2);
            }
            return value.intValue();
        }

        int number(int least, int most) {
            int value = look(least, most);
            next++;
            return value;
        }

        String word() {
            if (!peek().matches("[a-z]+")) {
                throw wrong(1);
            }
            return peek();
        }
    }

    public int load(int length) {
        range(length, 0, buffer.size());
        Reader in = new Reader(take(length));
        World w = new World();
        try {
            read(in, w);
        } catch (Wrong e) {
            errorAt = e.position;
            return -10 - e.code;
        }
        errorAt = -1;
        now = w;
        past.clear();
        snapshot = null;
        return w.hosts.size();
    }

    private static void read(Reader in, World w) {
        in.need("nets");
        if (in.skip("keep")) {
            w.keep = in.number(0, 3);
        }
        if (in.skip("per")) {
            w.per = in.number(1, 9);
        }
        if (in.skip("pool")) {
            w.from = in.number(1, 250);
            w.to = in.number(w.from, 250);
        }
        in.need(";");
        while (!in.peek().isEmpty()) {
            if (in.peek().equals("host")) {
                readHost(in, w);
            } else if (in.peek().equals("rule")) {
                if (w.rules.size() == 30) {
                    throw in.wrong(3);
                }
                in.next++;
                int office = in.number(0, 1);
                boolean allow = in.skip("allow");
                if (!allow) {
                    in.need("deny");
                }
                int first = in.skip("any") ? 0 : in.number(1, 250);
                int second = in.skip("any") ? 0 : in.number(1, 250);
                w.rules.add(new Rule(office, allow, first, second));
            } else {
                readMove(in, w);
            }
            in.need(";");
        }
    }

    private static void readHost(Reader in, World w) {
        if (w.hosts.size() == 40) {
            throw in.wrong(3);
        }
        in.next++;
        Host h = new Host();
        h.name = in.word();
        if (h.name.length() > 8) {
            throw in.wrong(2);
        }
        for (Host o : w.hosts) {
            if (o.name.equals(h.name)) {
                throw in.wrong(3);
            }
        }
        in.next++;
        h.office = in.number(0, 1);
        h.number = in.look(1, 250);
        for (Host o : w.hosts) {
            if (o.office == h.office && o.number == h.number) {
                throw in.wrong(3);
            }
        }
        in.next++;
        h.pinned = in.skip("pinned");
        w.hosts.add(h);
    }

    private static void readMove(Reader in, World w) {
        in.need("move");
        String name = in.word();
        Host found = null;
        for (Host h : w.hosts) {
            if (h.name.equals(name)) {
                found = h;
            }
        }
        if (found == null || found.pinned || found.plan != null) {
            throw in.wrong(4);
        }
        in.next++;
        int number = in.number(1, 250);
        int wave = in.look(1, 9);
        if (w.plansIn(wave) >= w.per) {
            throw in.wrong(4);
        }
        in.next++;
        found.plan = new int[] {number, wave};
    }

    public int errorPosition() {
        return errorAt;
    }

    public int size(int what) {
        int plans = 0;
        int keepers = 0;
        for (Host h : now.hosts) {
            plans += h.plan != null ? 1 : 0;
            keepers += now.kept(h) != null ? 1 : 0;
        }
        int[] all = {now.hosts.size(), now.rules.size(), plans, now.waves, now.keep, now.per, now.from, now.to,
            now.open ? 1 : 0, now.clashes().size(), keepers};
        if (what < 0 || what >= all.length) {
            throw new NoSuchElementException();
        }
        return all[what];
    }

    public int host(int host, int what) {
        Host h = at(host);
        int[] all = {h.office, h.number, now.kept(h) == null ? 0 : now.kept(h), h.pinned ? 1 : 0,
            h.plan == null ? 0 : h.plan[0], h.plan == null ? 0 : h.plan[1], h.moves.isEmpty() ? 0 : h.moves.lastKey()};
        if (what < 0 || what >= all.length) {
            throw new NoSuchElementException();
        }
        return all[what];
    }

    public int name(int host, int index) {
        String name = at(host).name;
        return index < 0 || index >= name.length() ? -1 : name.charAt(index);
    }

    public int holder(int office, int number) {
        office(office);
        range(number, 1, 250);
        for (Host h : now.hosts) {
            if (h.office == office && now.held(h).contains(number)) {
                return now.hosts.indexOf(h);
            }
        }
        return -1;
    }

    public int clash(int index) {
        if (index < 0 || index >= now.clashes().size()) {
            throw new NoSuchElementException();
        }
        return now.clashes().get(index);
    }

    public int plans(int wave) {
        range(wave, 1, 9);
        return now.plansIn(wave);
    }

    public int rule(int rule, int what) {
        if (rule < 0 || rule >= now.rules.size() || what < 0 || what > 3) {
            throw new NoSuchElementException();
        }
        Rule r = now.rules.get(rule);
        return what == 0 ? r.office : what == 1 ? (r.allow ? 1 : 0) : r.sides[what - 2];
    }

    public int decides(int office, int from, int to) {
        office(office);
        range(from, 1, 250);
        range(to, 1, 250);
        return now.decides(office, from, to);
    }

    public boolean allows(int office, int from, int to) {
        int rule = decides(office, from, to);
        return rule >= 0 && now.rules.get(rule).allow;
    }

    public int reach(int host) {
        return now.reach(at(host));
    }

    public int freeNumber() {
        return now.free();
    }

    public int whyNot() {
        return Math.min(0, now.copy().tryForward());
    }

    public int conflict() {
        World w = now.copy();
        if (w.waves == 9) {
            return -1;
        }
        w.forward();
        return w.twice().isEmpty() ? -1 : w.twice().first();
    }

    public int rewrites() {
        World w = now.copy();
        if (w.tryForward() < 0) {
            return -1;
        }
        int n = 0;
        for (int i = 0; i < w.rules.size(); i++) {
            for (int side = 0; side < 2; side++) {
                n += w.rules.get(i).sides[side] != now.rules.get(i).sides[side] ? 1 : 0;
            }
        }
        return n;
    }

    public int clashesIn(int waves) {
        range(waves, 0, 9);
        World w = now.copy();
        for (int i = 0; i < waves; i++) {
            if (w.tryForward() < 0) {
                return -1;
            }
        }
        return w.clashes().size();
    }

    public int openIn() {
        for (int waves = 0; waves <= 9; waves++) {
            int n = clashesIn(waves);
            if (n <= 0) {
                return n < 0 ? -1 : waves;
            }
        }
        return -1;
    }

    public float movedShare() {
        int moved = 0;
        for (Host h : now.hosts) {
            moved += h.moves.isEmpty() ? 0 : 1;
        }
        return now.hosts.isEmpty() ? 0 : (float) moved / (float) now.hosts.size();
    }

    public double meanReach() {
        int sum = 0;
        for (Host h : now.hosts) {
            sum += now.reach(h);
        }
        return now.hosts.isEmpty() ? 0 : (double) sum / (double) now.hosts.size();
    }

    public int addHost(int office, int number) {
        office(office);
        range(number, 1, 250);
        if (now.hosts.size() == 40) {
            return -2;
        }
        for (Host h : now.net(office)) {
            if (now.held(h).contains(number)) {
                return -3;
            }
        }
        record();
        Host h = new Host();
        h.office = office;
        h.number = number;
        now.hosts.add(h);
        return now.hosts.size() - 1;
    }

    public int removeHost(int host) {
        at(host);
        record();
        now.hosts.remove(host);
        return now.hosts.size();
    }

    public int plan(int host, int number, int wave) {
        Host h = at(host);
        range(number, 1, 250);
        range(wave, 1, 9);
        if (h.pinned) {
            return -2;
        }
        if (wave <= now.waves) {
            return -3;
        }
        int others = now.plansIn(wave) - (h.plan != null && h.plan[1] == wave ? 1 : 0);
        if (others >= now.per) {
            return -4;
        }
        record();
        h.plan = new int[] {number, wave};
        return now.plansIn(wave);
    }

    public int unplan(int host) {
        Host h = at(host);
        record();
        int wave = h.plan == null ? 0 : h.plan[1];
        h.plan = null;
        return wave;
    }

    public int settle() {
        record();
        int n = 0;
        for (int clash : now.clashes()) {
            Host chosen = null;
            for (int office = 0; office <= 1; office++) {
                for (Host h : now.hosts) {
                    if (h.office == office && h.number == clash && !h.pinned) {
                        chosen = h;
                    }
                }
            }
            int wave = now.waves + 1;
            while (wave <= 9 && now.plansIn(wave) >= now.per) {
                wave++;
            }
            if (chosen != null && chosen.plan == null && wave <= 9 && now.free() != -1) {
                chosen.plan = new int[] {now.free(), wave};
                n++;
            }
        }
        return n;
    }

    public int wave() {
        World w = now.copy();
        int n = w.tryForward();
        if (n >= 0) {
            record();
            now = w;
        }
        return n;
    }

    public int back() {
        if (now.waves == 0) {
            return -2;
        }
        World w = now.copy();
        w.backward();
        if (!w.twice().isEmpty()) {
            return -3;
        }
        record();
        now = w;
        return now.waves;
    }

    public int open() {
        if (now.open) {
            return -2;
        }
        if (!now.clashes().isEmpty()) {
            return -3;
        }
        record();
        now.open = true;
        return now.hosts.size();
    }

    public int close() {
        if (!now.open) {
            return -2;
        }
        record();
        now.open = false;
        return now.net(0).size();
    }

    public int addRule(int office, boolean allow, int first, int second) {
        office(office);
        range(first, 0, 250);
        range(second, 0, 250);
        if (now.rules.size() == 30) {
            return -2;
        }
        record();
        now.rules.add(new Rule(office, allow, first, second));
        return now.rules.size() - 1;
    }

    public int removeRule(int rule) {
        if (rule < 0 || rule >= now.rules.size()) {
            throw new NoSuchElementException();
        }
        record();
        now.rules.remove(rule);
        return now.rules.size();
    }

    public int setKeep(int keep) {
        range(keep, 0, 3);
        World w = now.copy();
        w.keep = keep;
        if (!w.twice().isEmpty()) {
            return -2;
        }
        int before = now.keep;
        record();
        now = w;
        return before;
    }

    public int setPinned(int host, boolean pinned) {
        Host h = at(host);
        record();
        int before = h.pinned ? 1 : 0;
        h.pinned = pinned;
        h.plan = pinned ? null : h.plan;
        return before;
    }

    public int format(int host) {
        Host h = at(host);
        line = h.name + ' ' + h.number + (now.kept(h) == null ? "" : "+" + now.kept(h)) + (h.pinned ? "!" : "")
                + (h.plan == null ? "" : " > " + h.plan[0] + "@" + h.plan[1]);
        return line.length();
    }

    public int formattedByte(int index) {
        return index < 0 || index >= line.length() ? -1 : line.charAt(index);
    }

    public int undoCount() {
        return past.size();
    }

    public int undo() {
        if (past.isEmpty()) {
            return -1;
        }
        now = past.pop();
        return past.size();
    }

    public void saveSnapshot() {
        snapshot = now.copy();
    }

    public boolean restoreSnapshot() {
        if (snapshot == null) {
            return false;
        }
        now = snapshot.copy();
        past.clear();
        return true;
    }

    public int query(int length) {
        range(length, 0, Math.min(200, buffer.size()));
        Reader in = new Reader(take(length));
        List<Integer> passing = new ArrayList<>();
        boolean many = in.peek().equals("many");
        try {
            if (!in.skip("many")) {
                in.need("first");
            }
            // read once without a host, so that the text is looked at without hosts, too
            for (int host = -1; host < now.hosts.size(); host++) {
                in.next = 1;
                boolean holds = test(in, host, 0);
                if (!in.peek().isEmpty()) {
                    throw in.wrong(1);
                }
                if (holds && host >= 0) {
                    passing.add(host);
                }
            }
        } catch (Wrong e) {
            errorAt = e.position;
            return -1000000000 - e.code;
        }
        errorAt = -1;
        return many ? passing.size() : passing.isEmpty() ? -1 : Collections.min(passing);
    }

    private boolean test(Reader in, int host, int open) {
        boolean holds = conjunction(in, host, open);
        while (in.skip("or")) {
            holds |= conjunction(in, host, open);
        }
        return holds;
    }

    private boolean conjunction(Reader in, int host, int open) {
        boolean holds = factor(in, host, open);
        while (in.skip("and")) {
            holds &= factor(in, host, open);
        }
        return holds;
    }

    private boolean factor(Reader in, int host, int open) {
        if (in.peek().equals("not") || in.peek().equals("(")) {
            if (open == 6) {
                throw in.wrong(3);
            }
            if (in.skip("not")) {
                return !factor(in, host, open + 1);
            }
            in.next++;
            boolean holds = test(in, host, open + 1);
            in.need(")");
            return holds;
        }
        int left = value(in, host);
        String sign = in.peek();
        if (!sign.equals("<") && !sign.equals("=") && !sign.equals(">")) {
            throw in.wrong(1);
        }
        in.next++;
        int right = value(in, host);
        return sign.equals("<") ? left < right : sign.equals("=") ? left == right : left > right;
    }

    private int value(Reader in, int host) {
        if (in.peek().matches("[0-9]+")) {
            return in.number(0, 9999);
        }
        String word = in.word();
        String[] known = {"office", "number", "old", "pinned", "planned", "wave", "host", "clash", "reach"};
        int which = java.util.Arrays.asList(known).indexOf(word);
        if (which < 0) {
            throw in.wrong(1);
        }
        in.next++;
        if (host < 0) {
            return 0;
        }
        if (which < 6) {
            return host(host, which);
        }
        if (which == 6) {
            return host;
        }
        if (which == 8) {
            return reach(host);
        }
        Set<Integer> held = now.held(now.hosts.get(host));
        held.retainAll(now.clashes());
        return held.isEmpty() ? 0 : 1;
    }
}
