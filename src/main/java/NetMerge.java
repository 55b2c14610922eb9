import java.util.Arrays;
import java.util.NoSuchElementException;

/**
 * A bridge between two office nets that merge with clashing numbers. What each call promises
 * stands in the document; here only the reasons behind the code are told.
 */
public final class NetMerge {
    public static final int NONE = -1;
    public static final int HIDDEN = -1000000000;

    private static final int OFFICES = 2;
    private static final int MAX_HOSTS = 40;
    private static final int MAX_RULES = 30;
    private static final int MAX_WAVES = 9;
    private static final int MAX_KEEP = 3;
    private static final int MAX_PER = 9;
    private static final int MAX_NUMBER = 250;
    private static final int MAX_LETTERS = 8;
    private static final int MAX_UNDO = 10;
    private static final int MAX_BYTES = 900;
    private static final int MAX_QUERY = 200;
    private static final int FED_BYTES = 20;

    /** The state that calls see, and a second one on which refusable changes are tried out. */
    private final Nets now = new Nets();
    private final Nets trial = new Nets();
    private final Nets saved = new Nets();
    private boolean hasSaved;
    private final History history = new History();
    private final Tally tally = new Tally();
    private final Text text = new Text();
    private final Loader loader = new Loader(text, trial);
    private final Query asked = new Query(text);
    private final Line line = new Line();
    private int errorAt = NONE;

    public NetMerge() {
        now.clear();
    }

    // ---- input ----

    public int feed(int a, int b, int c, int d, int e) {
        if (text.filled + FED_BYTES > MAX_BYTES) {
            return NONE;
        }
        text.append(a);
        text.append(b);
        text.append(c);
        text.append(d);
        text.append(e);
        return text.filled;
    }

    public int load(int length) throws IllegalArgumentException {
        if (length < 0 || length > text.filled) {
            throw new IllegalArgumentException();
        }
        text.begin(length);
        int code = loader.readText();
        if (code != 0) {
            errorAt = text.start;
            return -10 - code;
        }
        errorAt = NONE;
        now.copyFrom(trial);
        history.clear();
        hasSaved = false;
        return now.hostCount;
    }

    public int errorPosition() {
        return errorAt;
    }

    // ---- what there is ----

    public int size(int what) throws NoSuchElementException {
        switch (what) {
            case 0: return now.hostCount;
            case 1: return now.ruleCount;
            case 2: return now.planCount();
            case 3: return now.waveCount;
            case 4: return now.keep;
            case 5: return now.per;
            case 6: return now.poolFirst;
            case 7: return now.poolLast;
            case 8: return now.bridged ? 1 : 0;
            case 9: return clashCount(now);
            case 10: return now.keeperCount();
            default: throw new NoSuchElementException();
        }
    }

    public int host(int host, int what) throws NoSuchElementException {
        needHost(host);
        switch (what) {
            case 0: return now.office[host];
            case 1: return now.number[host];
            case 2: return now.keptBy(host);
            case 3: return now.pinned[host];
            case 4: return now.planNumber[host];
            case 5: return now.planWave[host];
            case 6: return now.latestMove[host];
            default: throw new NoSuchElementException();
        }
    }

    public int name(int host, int index) throws NoSuchElementException {
        needHost(host);
        if (index < 0 || index >= MAX_LETTERS) {
            return NONE;
        }
        int letter = letterOf(now.name[host], index);
        return letter == 0 ? NONE : letter;
    }

    public int holder(int office, int number) throws NoSuchElementException, IllegalArgumentException {
        needOffice(office);
        needNumber(number);
        return now.holderInOffice(office, number);
    }

    public int clash(int index) throws NoSuchElementException {
        tally.count(now);
        int clash = tally.clashAt(index);
        if (clash == 0) {
            throw new NoSuchElementException();
        }
        return clash;
    }

    public int plans(int wave) throws IllegalArgumentException {
        needWave(wave);
        return now.plansIn(wave);
    }

    public int rule(int rule, int what) throws NoSuchElementException {
        needRule(rule);
        switch (what) {
            case 0: return now.ruleOffice[rule];
            case 1: return now.ruleAllows[rule];
            case 2: return now.ruleFirst[rule];
            case 3: return now.ruleSecond[rule];
            default: throw new NoSuchElementException();
        }
    }

    public int decides(int office, int from, int to) throws NoSuchElementException, IllegalArgumentException {
        needOffice(office);
        needNumber(from);
        needNumber(to);
        return now.decidingRule(office, from, to);
    }

    public boolean allows(int office, int from, int to) throws NoSuchElementException, IllegalArgumentException {
        needOffice(office);
        needNumber(from);
        needNumber(to);
        int rule = now.decidingRule(office, from, to);
        return now.isAllowing(rule);
    }

    public int reach(int host) throws NoSuchElementException {
        needHost(host);
        return now.reachOf(host);
    }

    public int freeNumber() {
        tally.count(now);
        int free = tally.smallestFree(now.poolFirst, now.poolLast);
        return free == 0 ? NONE : free;
    }

    // ---- what would be ----

    public int whyNot() {
        trial.copyFrom(now);
        return Math.min(0, tryWave());
    }

    public int conflict() {
        if (now.waveCount >= MAX_WAVES) {
            return NONE;
        }
        trial.copyFrom(now);
        trial.doWave();
        int twice = heldTwice(trial);
        return twice == 0 ? NONE : twice;
    }

    public int rewrites() {
        trial.copyFrom(now);
        return tryWave() < 0 ? NONE : trial.sidesUnlike(now);
    }

    public int clashesIn(int waves) throws IllegalArgumentException {
        if (waves < 0 || waves > MAX_WAVES) {
            throw new IllegalArgumentException();
        }
        trial.copyFrom(now);
        for (int done = 0; done < waves; done++) {
            if (tryWave() < 0) {
                return NONE;
            }
        }
        return clashCount(trial);
    }

    public int openIn() {
        trial.copyFrom(now);
        for (int done = 0; done <= MAX_WAVES; done++) {
            if (clashCount(trial) == 0) {
                return done;
            }
            if (tryWave() < 0) {
                return NONE;
            }
        }
        return NONE;
    }

    public float movedShare() {
        if (now.hostCount == 0) {
            return 0;
        }
        return (float) now.movedCount() / (float) now.hostCount;
    }

    public double meanReach() {
        if (now.hostCount == 0) {
            return 0;
        }
        int sum = 0;
        for (int host = 0; host < now.hostCount; host++) {
            sum += now.reachOf(host);
        }
        return (double) sum / (double) now.hostCount;
    }

    // ---- operations ----

    public int addHost(int office, int number) throws NoSuchElementException, IllegalArgumentException {
        needOffice(office);
        needNumber(number);
        if (now.hostCount >= MAX_HOSTS) {
            return -2;
        }
        if (now.holderInNet(office, number) != NONE) {
            return -3;
        }
        history.add(now);
        return now.appendHost(0, office, number);
    }

    public int removeHost(int host) throws NoSuchElementException {
        needHost(host);
        history.add(now);
        now.dropHost(host);
        return now.hostCount;
    }

    public int plan(int host, int number, int wave) throws NoSuchElementException, IllegalArgumentException {
        needHost(host);
        needNumber(number);
        needWave(wave);
        if (now.pinned[host] == 1) {
            return -2;
        }
        if (wave <= now.waveCount) {
            return -3;
        }
        int others = now.plansIn(wave) - (now.planWave[host] == wave ? 1 : 0);
        if (others >= now.per) {
            return -4;
        }
        history.add(now);
        now.setPlan(host, number, wave);
        return others + 1;
    }

    public int unplan(int host) throws NoSuchElementException {
        needHost(host);
        history.add(now);
        int wave = now.planWave[host];
        now.setPlan(host, 0, 0);
        return wave;
    }

    public int settle() {
        history.add(now);
        tally.count(now);
        int planned = 0;
        for (int number = 1; number <= MAX_NUMBER; number++) {
            int host = tally.isClash(number) ? now.chosenToMove(number) : NONE;
            if (host != NONE && now.planWave[host] == 0) {
                int free = tally.smallestFree(now.poolFirst, now.poolLast);
                int wave = now.firstWaveWithRoom();
                if (free == 0 || wave == 0) {
                    return planned;
                }
                now.setPlan(host, free, wave);
                tally.countPlan(free);
                planned++;
            }
        }
        return planned;
    }

    public int wave() {
        trial.copyFrom(now);
        int moves = tryWave();
        if (moves >= 0) {
            adoptTrial();
        }
        return moves;
    }

    public int back() {
        if (now.waveCount == 0) {
            return -2;
        }
        trial.copyFrom(now);
        trial.undoWave();
        if (heldTwice(trial) != 0) {
            return -3;
        }
        adoptTrial();
        return now.waveCount;
    }

    public int open() {
        if (now.bridged) {
            return -2;
        }
        if (clashCount(now) > 0) {
            return -3;
        }
        history.add(now);
        now.bridged = true;
        return now.hostCount;
    }

    public int close() {
        if (!now.bridged) {
            return -2;
        }
        history.add(now);
        now.bridged = false;
        return now.hostsOfOffice(0);
    }

    public int addRule(int office, boolean allow, int first, int second)
            throws NoSuchElementException, IllegalArgumentException {
        needOffice(office);
        needSide(first);
        needSide(second);
        if (now.ruleCount >= MAX_RULES) {
            return -2;
        }
        history.add(now);
        return now.appendRule(office, allow, first, second);
    }

    public int removeRule(int rule) throws NoSuchElementException {
        needRule(rule);
        history.add(now);
        now.dropRule(rule);
        return now.ruleCount;
    }

    public int setKeep(int keep) throws IllegalArgumentException {
        if (keep < 0 || keep > MAX_KEEP) {
            throw new IllegalArgumentException();
        }
        int before = now.keep;
        trial.copyFrom(now);
        trial.keep = keep;
        if (heldTwice(trial) != 0) {
            return -2;
        }
        adoptTrial();
        return before;
    }

    public int setPinned(int host, boolean pinned) throws NoSuchElementException {
        needHost(host);
        history.add(now);
        int before = now.pinned[host];
        now.pinned[host] = pinned ? 1 : 0;
        if (pinned) {
            now.setPlan(host, 0, 0);
        }
        return before;
    }

    // ---- text of a host ----

    public int format(int host) throws NoSuchElementException {
        needHost(host);
        line.clear();
        line.addName(now.name[host]);
        line.addSign(' ');
        line.addNumber(now.number[host]);
        int kept = now.keptBy(host);
        if (kept != 0) {
            line.addSign('+');
            line.addNumber(kept);
        }
        if (now.pinned[host] == 1) {
            line.addSign('!');
        }
        if (now.planWave[host] != 0) {
            line.addSign(' ');
            line.addSign('>');
            line.addSign(' ');
            line.addNumber(now.planNumber[host]);
            line.addSign('@');
            line.addNumber(now.planWave[host]);
        }
        return line.length;
    }

    public int formattedByte(int index) {
        return line.byteAt(index);
    }

    // ---- ways back ----

    public int undoCount() {
        return history.count;
    }

    public int undo() {
        if (history.count == 0) {
            return NONE;
        }
        history.takeNewest(now);
        return history.count;
    }

    public void saveSnapshot() {
        saved.copyFrom(now);
        hasSaved = true;
    }

    public boolean restoreSnapshot() {
        if (!hasSaved) {
            return false;
        }
        now.copyFrom(saved);
        history.clear();
        return true;
    }

    public int query(int length) throws IllegalArgumentException {
        if (length < 0 || length > MAX_QUERY || length > text.filled) {
            throw new IllegalArgumentException();
        }
        text.begin(length);
        int code = asked.readQuery();
        if (code != 0) {
            errorAt = text.start;
            return HIDDEN - code;
        }
        errorAt = NONE;
        tally.count(now);
        long passing = asked.hostsThatPass(now, tally);
        return asked.many ? Long.bitCount(passing) : smallestOf(passing);
    }

    // ---- what several calls share ----

    private void needHost(int host) throws NoSuchElementException {
        if (host < 0 || host >= now.hostCount) {
            throw new NoSuchElementException();
        }
    }

    private void needRule(int rule) throws NoSuchElementException {
        if (rule < 0 || rule >= now.ruleCount) {
            throw new NoSuchElementException();
        }
    }

    private static void needOffice(int office) throws NoSuchElementException {
        if (office < 0 || office >= OFFICES) {
            throw new NoSuchElementException();
        }
    }

    private static void needNumber(int number) throws IllegalArgumentException {
        if (number < 1 || number > MAX_NUMBER) {
            throw new IllegalArgumentException();
        }
    }

    private static void needSide(int side) throws IllegalArgumentException {
        if (side < 0 || side > MAX_NUMBER) {
            throw new IllegalArgumentException();
        }
    }

    private static void needWave(int wave) throws IllegalArgumentException {
        if (wave < 1 || wave > MAX_WAVES) {
            throw new IllegalArgumentException();
        }
    }

    /** A name is kept as one long, its first letter in the lowest byte, so that copies stay cheap. */
    private static int letterOf(long name, int index) {
        return (int) (name >>> (8 * index)) & 255;
    }

    private static int smallestOf(long hosts) {
        for (int host = 0; host < MAX_HOSTS; host++) {
            if ((hosts >>> host & 1) == 1) {
                return host;
            }
        }
        return NONE;
    }

    private int clashCount(Nets nets) {
        tally.count(nets);
        return tally.clashes();
    }

    /** The smallest number that two hosts of a net hold, 0 without one. */
    private int heldTwice(Nets nets) {
        tally.count(nets);
        return tally.smallestTwice(nets.bridged);
    }

    /** Does the next wave on the trial; answers as wave(). Behind a refusal the trial is of no use. */
    private int tryWave() {
        if (trial.waveCount >= MAX_WAVES) {
            return -2;
        }
        if (trial.keeperWouldMove()) {
            return -3;
        }
        int moves = trial.doWave();
        return heldTwice(trial) != 0 ? -4 : moves;
    }

    private void adoptTrial() {
        history.add(now);
        now.copyFrom(trial);
    }

    /** All that undoing restores. A plan wave of 0 stands for no plan, a latest move of 0 for none. */
    private static final class Nets {
        private static final int ROW = MAX_WAVES + 1;

        private int hostCount;
        private int ruleCount;
        private int waveCount;
        private int keep;
        private int per;
        private int poolFirst;
        private int poolLast;
        private boolean bridged;
        private final long[] name = new long[MAX_HOSTS];
        private final int[] office = new int[MAX_HOSTS];
        private final int[] number = new int[MAX_HOSTS];
        private final int[] pinned = new int[MAX_HOSTS];
        private final int[] planNumber = new int[MAX_HOSTS];
        private final int[] planWave = new int[MAX_HOSTS];
        private final int[] latestMove = new int[MAX_HOSTS];
        /** For each host and wave the number ahead of its move, 0 without a move. */
        private final int[] movedFrom = new int[MAX_HOSTS * ROW];
        private final int[] ruleOffice = new int[MAX_RULES];
        private final int[] ruleAllows = new int[MAX_RULES];
        private final int[] ruleFirst = new int[MAX_RULES];
        private final int[] ruleSecond = new int[MAX_RULES];

        private void clear() {
            hostCount = 0;
            ruleCount = 0;
            waveCount = 0;
            keep = 1;
            per = 3;
            poolFirst = 200;
            poolLast = MAX_NUMBER;
            bridged = false;
        }

        private void copyFrom(Nets other) {
            hostCount = other.hostCount;
            ruleCount = other.ruleCount;
            waveCount = other.waveCount;
            keep = other.keep;
            per = other.per;
            poolFirst = other.poolFirst;
            poolLast = other.poolLast;
            bridged = other.bridged;
            System.arraycopy(other.name, 0, name, 0, MAX_HOSTS);
            System.arraycopy(other.office, 0, office, 0, MAX_HOSTS);
            System.arraycopy(other.number, 0, number, 0, MAX_HOSTS);
            System.arraycopy(other.pinned, 0, pinned, 0, MAX_HOSTS);
            System.arraycopy(other.planNumber, 0, planNumber, 0, MAX_HOSTS);
            System.arraycopy(other.planWave, 0, planWave, 0, MAX_HOSTS);
            System.arraycopy(other.latestMove, 0, latestMove, 0, MAX_HOSTS);
            System.arraycopy(other.movedFrom, 0, movedFrom, 0, MAX_HOSTS * ROW);
            System.arraycopy(other.ruleOffice, 0, ruleOffice, 0, MAX_RULES);
            System.arraycopy(other.ruleAllows, 0, ruleAllows, 0, MAX_RULES);
            System.arraycopy(other.ruleFirst, 0, ruleFirst, 0, MAX_RULES);
            System.arraycopy(other.ruleSecond, 0, ruleSecond, 0, MAX_RULES);
        }

        /** Answers the new host's number as a host; NONE if there is no room. */
        private int appendHost(long itsName, int itsOffice, int itsNumber) {
            if (hostCount >= MAX_HOSTS) {
                return NONE;
            }
            int host = hostCount;
            hostCount++;
            name[host] = itsName;
            office[host] = itsOffice;
            number[host] = itsNumber;
            pinned[host] = 0;
            planNumber[host] = 0;
            planWave[host] = 0;
            latestMove[host] = 0;
            for (int wave = 0; wave < ROW; wave++) {
                movedFrom[host * ROW + wave] = 0;
            }
            return host;
        }

        private void dropHost(int host) {
            int behind = hostCount - host - 1;
            if (host < 0 || behind < 0) {
                return;
            }
            System.arraycopy(name, host + 1, name, host, behind);
            System.arraycopy(office, host + 1, office, host, behind);
            System.arraycopy(number, host + 1, number, host, behind);
            System.arraycopy(pinned, host + 1, pinned, host, behind);
            System.arraycopy(planNumber, host + 1, planNumber, host, behind);
            System.arraycopy(planWave, host + 1, planWave, host, behind);
            System.arraycopy(latestMove, host + 1, latestMove, host, behind);
            System.arraycopy(movedFrom, (host + 1) * ROW, movedFrom, host * ROW, behind * ROW);
            hostCount--;
        }

        /** Answers the new rule's number; NONE if there is no room. */
        private int appendRule(int itsOffice, boolean allow, int first, int second) {
            if (ruleCount >= MAX_RULES) {
                return NONE;
            }
            int rule = ruleCount;
            ruleCount++;
            ruleOffice[rule] = itsOffice;
            ruleAllows[rule] = allow ? 1 : 0;
            ruleFirst[rule] = first;
            ruleSecond[rule] = second;
            return rule;
        }

        private void dropRule(int rule) {
            int behind = ruleCount - rule - 1;
            if (rule < 0 || behind < 0) {
                return;
            }
            System.arraycopy(ruleOffice, rule + 1, ruleOffice, rule, behind);
            System.arraycopy(ruleAllows, rule + 1, ruleAllows, rule, behind);
            System.arraycopy(ruleFirst, rule + 1, ruleFirst, rule, behind);
            System.arraycopy(ruleSecond, rule + 1, ruleSecond, rule, behind);
            ruleCount--;
        }

        private void setPlan(int host, int itsNumber, int itsWave) {
            planNumber[host] = itsNumber;
            planWave[host] = itsWave;
        }

        private int planCount() {
            int count = 0;
            for (int host = 0; host < hostCount; host++) {
                count += planWave[host] != 0 ? 1 : 0;
            }
            return count;
        }

        private int plansIn(int wave) {
            int count = 0;
            for (int host = 0; host < hostCount; host++) {
                count += planWave[host] == wave ? 1 : 0;
            }
            return count;
        }

        private int keeperCount() {
            int count = 0;
            for (int host = 0; host < hostCount; host++) {
                count += keptBy(host) != 0 ? 1 : 0;
            }
            return count;
        }

        private int movedCount() {
            int count = 0;
            for (int host = 0; host < hostCount; host++) {
                count += latestMove[host] != 0 ? 1 : 0;
            }
            return count;
        }

        private int hostsOfOffice(int which) {
            int count = 0;
            for (int host = 0; host < hostCount; host++) {
                count += office[host] == which ? 1 : 0;
            }
            return count;
        }

        /** The first wave still to come that has room for a plan, 0 without one. */
        private int firstWaveWithRoom() {
            for (int wave = waveCount + 1; wave <= MAX_WAVES; wave++) {
                if (plansIn(wave) < per) {
                    return wave;
                }
            }
            return 0;
        }

        /** The number that a host keeps, 0 without one. */
        private int keptBy(int host) {
            return keepsAt(host, waveCount) ? numberAhead(host, latestMove[host]) : 0;
        }

        /** The number that a host had ahead of its move in a wave, 0 without such a move. */
        private int numberAhead(int host, int wave) {
            return host >= 0 && host < hostCount && wave >= 0 && wave < ROW ? movedFrom[host * ROW + wave] : 0;
        }

        private boolean keepsAt(int host, int wavesDone) {
            int wave = latestMove[host];
            return wave > 0 && wavesDone < wave + keep;
        }

        private int hostNamed(long itsName) {
            for (int host = 0; host < hostCount; host++) {
                if (name[host] == itsName) {
                    return host;
                }
            }
            return NONE;
        }

        private int holderInOffice(int which, int held) {
            for (int host = 0; host < hostCount; host++) {
                if (office[host] == which && (number[host] == held || keptBy(host) == held)) {
                    return host;
                }
            }
            return NONE;
        }

        private int holderInNet(int which, int held) {
            for (int host = 0; host < hostCount; host++) {
                if (inNet(office[host], which) && (number[host] == held || keptBy(host) == held)) {
                    return host;
                }
            }
            return NONE;
        }

        /** The host of the net of an office that has a number as its own, not as one that it keeps. */
        private int numberedInNet(int which, int wanted) {
            for (int host = 0; host < hostCount; host++) {
                if (inNet(office[host], which) && number[host] == wanted) {
                    return host;
                }
            }
            return NONE;
        }

        private boolean inNet(int itsOffice, int which) {
            return bridged || itsOffice == which;
        }

        /** The host that settling moves away from a clash; NONE if both hosts must stay. */
        private int chosenToMove(int clash) {
            int host = movableWith(1, clash);
            return host != NONE ? host : movableWith(0, clash);
        }

        private int movableWith(int which, int wanted) {
            for (int host = 0; host < hostCount; host++) {
                if (office[host] == which && number[host] == wanted && pinned[host] == 0) {
                    return host;
                }
            }
            return NONE;
        }

        private int decidingRule(int which, int from, int to) {
            return firstRule(which, from, twinOf(which, from), to, twinOf(which, to));
        }

        /** The other number of the host that holds a number; 0 without one, which no named side equals. */
        private int twinOf(int which, int held) {
            int host = holderInNet(which, held);
            if (host == NONE) {
                return 0;
            }
            return number[host] == held ? keptBy(host) : number[host];
        }

        private int firstRule(int which, int from, int fromTwin, int to, int toTwin) {
            for (int rule = 0; rule < ruleCount; rule++) {
                if (inNet(ruleOffice[rule], which)
                        && matches(ruleFirst[rule], from, fromTwin)
                        && matches(ruleSecond[rule], to, toTwin)) {
                    return rule;
                }
            }
            return NONE;
        }

        /** What no rule decides is denied. */
        private boolean isAllowing(int rule) {
            return rule >= 0 && rule < ruleCount && ruleAllows[rule] == 1;
        }

        private static boolean matches(int side, int wanted, int twin) {
            return side == 0 || side == wanted || side == twin;
        }

        private int reachOf(int host) {
            int kept = keptBy(host);
            int count = 0;
            for (int other = 0; other < hostCount; other++) {
                if (other != host && inNet(office[other], office[host])) {
                    int rule = firstRule(office[host], number[host], kept, number[other], keptBy(other));
                    count += isAllowing(rule) ? 1 : 0;
                }
            }
            return count;
        }

        private boolean keeperWouldMove() {
            for (int host = 0; host < hostCount; host++) {
                if (planWave[host] == waveCount + 1 && keepsAt(host, waveCount + 1)) {
                    return true;
                }
            }
            return false;
        }

        /** Does the next wave, even one that is to be refused; answers how many hosts moved. */
        private int doWave() {
            if (waveCount >= MAX_WAVES) {
                return 0;
            }
            waveCount++;
            for (int rule = 0; rule < ruleCount; rule++) {
                ruleFirst[rule] = sideBehindWave(ruleOffice[rule], ruleFirst[rule]);
                ruleSecond[rule] = sideBehindWave(ruleOffice[rule], ruleSecond[rule]);
            }
            int moves = 0;
            for (int host = 0; host < hostCount; host++) {
                if (planWave[host] == waveCount) {
                    movedFrom[host * ROW + waveCount] = number[host];
                    latestMove[host] = waveCount;
                    number[host] = planNumber[host];
                    setPlan(host, 0, 0);
                    moves++;
                }
            }
            return moves;
        }

        /** Looks at the numbers ahead of the moves, so that no side is changed twice. */
        private int sideBehindWave(int which, int side) {
            int host = numberedInNet(which, side);
            return host != NONE && planWave[host] == waveCount ? planNumber[host] : side;
        }

        /** Goes back from the latest wave, even if that is to be refused. */
        private void undoWave() {
            if (waveCount < 1) {
                return;
            }
            for (int rule = 0; rule < ruleCount; rule++) {
                ruleFirst[rule] = sideAheadOfWave(ruleOffice[rule], ruleFirst[rule]);
                ruleSecond[rule] = sideAheadOfWave(ruleOffice[rule], ruleSecond[rule]);
            }
            for (int host = 0; host < hostCount; host++) {
                if (latestMove[host] == waveCount) {
                    undoMove(host);
                }
            }
            waveCount--;
        }

        private int sideAheadOfWave(int which, int side) {
            int host = numberedInNet(which, side);
            return host != NONE && latestMove[host] == waveCount ? numberAhead(host, waveCount) : side;
        }

        private void undoMove(int host) {
            if (planWave[host] == 0 && pinned[host] == 0) {
                setPlan(host, number[host], waveCount);
            }
            number[host] = numberAhead(host, waveCount);
            movedFrom[host * ROW + waveCount] = 0;
            int wave = waveCount - 1;
            while (wave > 0 && numberAhead(host, wave) == 0) {
                wave--;
            }
            latestMove[host] = wave;
        }

        private int sidesUnlike(Nets other) {
            int count = 0;
            for (int rule = 0; rule < ruleCount; rule++) {
                count += ruleFirst[rule] != other.ruleFirst[rule] ? 1 : 0;
                count += ruleSecond[rule] != other.ruleSecond[rule] ? 1 : 0;
            }
            return count;
        }
    }

    /** How many hosts of each office hold each number, and how many plans lead to it. */
    private static final class Tally {
        private final int[] heldIn0 = new int[MAX_NUMBER + 1];
        private final int[] heldIn1 = new int[MAX_NUMBER + 1];
        private final int[] planned = new int[MAX_NUMBER + 1];

        private void count(Nets nets) {
            Arrays.fill(heldIn0, 0);
            Arrays.fill(heldIn1, 0);
            Arrays.fill(planned, 0);
            for (int host = 0; host < nets.hostCount; host++) {
                int[] held = nets.office[host] == 0 ? heldIn0 : heldIn1;
                int kept = nets.keptBy(host);
                addOne(held, nets.number[host]);
                // a host that moved to the number that it had holds it once
                if (kept != nets.number[host]) {
                    addOne(held, kept);
                }
                addOne(planned, nets.planNumber[host]);
            }
        }

        private void countPlan(int number) {
            addOne(planned, number);
        }

        /** Column 0 takes the numbers that are none, so that they need no tests of their own. */
        private static void addOne(int[] row, int number) {
            if (number >= 0 && number < row.length) {
                row[number]++;
            }
        }

        private boolean isClash(int number) {
            return number >= 1 && number <= MAX_NUMBER && heldIn0[number] > 0 && heldIn1[number] > 0;
        }

        private int clashes() {
            int count = 0;
            for (int number = 1; number <= MAX_NUMBER; number++) {
                count += isClash(number) ? 1 : 0;
            }
            return count;
        }

        /** A clash by its place in ascending order, 0 if there is none. */
        private int clashAt(int index) {
            int ahead = 0;
            for (int number = 1; number <= MAX_NUMBER; number++) {
                if (isClash(number)) {
                    if (ahead == index) {
                        return number;
                    }
                    ahead++;
                }
            }
            return 0;
        }

        private int smallestTwice(boolean bridged) {
            for (int number = 1; number <= MAX_NUMBER; number++) {
                if (heldIn0[number] > 1 || heldIn1[number] > 1 || bridged && isClash(number)) {
                    return number;
                }
            }
            return 0;
        }

        private int smallestFree(int first, int last) {
            for (int number = Math.max(1, first); number <= last && number <= MAX_NUMBER; number++) {
                if (heldIn0[number] == 0 && heldIn1[number] == 0 && planned[number] == 0) {
                    return number;
                }
            }
            return 0;
        }
    }

    /** The states ahead of the most recent operations, in a ring. */
    private static final class History {
        private final Nets[] states = new Nets[MAX_UNDO];
        private int newest;
        private int count;

        private History() {
            for (int i = 0; i < MAX_UNDO; i++) {
                states[i] = new Nets();
            }
        }

        private void clear() {
            count = 0;
        }

        private void add(Nets nets) {
            newest = newest + 1 < MAX_UNDO ? newest + 1 : 0;
            Nets state = states[newest];
            if (state != null) {
                state.copyFrom(nets);
                count = Math.min(MAX_UNDO, count + 1);
            }
        }

        private void takeNewest(Nets into) {
            Nets state = states[newest];
            if (count > 0 && state != null) {
                into.copyFrom(state);
                count--;
                newest = newest > 0 ? newest - 1 : MAX_UNDO - 1;
            }
        }
    }

    /** The byte buffer, and the token of it that is looked at. */
    private static final class Text {
        private static final int END = 0;
        private static final int WORD = 1;
        private static final int NUMBER = 2;
        /** Any other single byte: who reads decides whether it is a token. */
        private static final int SIGN = 3;
        /** Above every range of the document, so that long runs of digits need no more. */
        private static final int TOO_LARGE = 10000;

        private final byte[] bytes = new byte[MAX_BYTES];
        private int filled;
        private int length;
        private int at;
        private int kind;
        private int start;
        private int number;

        private void append(int word) {
            for (int shift = 24; shift >= 0 && filled < MAX_BYTES; shift -= 8) {
                bytes[filled] = (byte) (word >>> shift);
                filled++;
            }
        }

        /** Looks at the first token of a text of so many bytes; the buffer counts as empty from here. */
        private void begin(int textLength) {
            length = Math.min(textLength, MAX_BYTES);
            filled = 0;
            at = 0;
            advance();
        }

        private void advance() {
            while (at < length && (bytes[at] == ' ' || bytes[at] == '\n')) {
                at++;
            }
            start = at;
            number = 0;
            if (at >= length) {
                kind = END;
            } else if (isLetter(bytes[at])) {
                kind = WORD;
                while (at < length && isLetter(bytes[at])) {
                    at++;
                }
            } else if (isDigit(bytes[at])) {
                kind = NUMBER;
                while (at < length && isDigit(bytes[at])) {
                    number = Math.min(TOO_LARGE, number * 10 + bytes[at] - '0');
                    at++;
                }
            } else {
                kind = SIGN;
                at++;
            }
        }

        private static boolean isLetter(int sign) {
            return sign >= 'a' && sign <= 'z';
        }

        private static boolean isDigit(int sign) {
            return sign >= '0' && sign <= '9';
        }

        private boolean isSign(int sign) {
            return kind == SIGN && start < length && bytes[start] == sign;
        }

        private boolean isWord(String word) {
            if (kind != WORD || at - start != word.length()) {
                return false;
            }
            for (int i = 0; i < word.length(); i++) {
                if (bytes[start + i] != word.charAt(i)) {
                    return false;
                }
            }
            return true;
        }

        private int letters() {
            return kind == WORD ? at - start : 0;
        }

        /** The word as a name; 0, which is no host's name in a text, if it is too long for one. */
        private long asName() {
            if (letters() > MAX_LETTERS) {
                return 0;
            }
            long name = 0;
            for (int i = letters() - 1; i >= 0; i--) {
                name = name << 8 | bytes[start + i];
            }
            return name;
        }
    }

    /** Reads the input text of section 4. Its methods answer false behind the first error. */
    private static final class Loader {
        private final Text text;
        private final Nets nets;
        private int error;
        private int taken;

        private Loader(Text text, Nets nets) {
            this.text = text;
            this.nets = nets;
        }

        /** Answers the error code, 0 without one; the text then looks at the wrong token. */
        private int readText() {
            error = 0;
            nets.clear();
            boolean sound = readHead();
            // a clause has a byte at least, so a text has no more clauses than bytes
            for (int clause = 0; sound && clause < MAX_BYTES && text.kind != Text.END; clause++) {
                sound = text.isWord("host") ? readHost()
                        : text.isWord("rule") ? readRule()
                        : text.isWord("move") ? readMove()
                        : fail(1);
                sound = sound && takeSemicolon();
            }
            return error;
        }

        private boolean readHead() {
            return takeWord("nets") && readKeep() && readPer() && readPool() && takeSemicolon();
        }

        private boolean readKeep() {
            if (!text.isWord("keep")) {
                return true;
            }
            text.advance();
            if (!takeNumber(0, MAX_KEEP)) {
                return false;
            }
            nets.keep = taken;
            return true;
        }

        private boolean readPer() {
            if (!text.isWord("per")) {
                return true;
            }
            text.advance();
            if (!takeNumber(1, MAX_PER)) {
                return false;
            }
            nets.per = taken;
            return true;
        }

        private boolean readPool() {
            if (!text.isWord("pool")) {
                return true;
            }
            text.advance();
            if (!takeNumber(1, MAX_NUMBER)) {
                return false;
            }
            nets.poolFirst = taken;
            if (!takeNumber(nets.poolFirst, MAX_NUMBER)) {
                return false;
            }
            nets.poolLast = taken;
            return true;
        }

        private boolean readHost() {
            if (nets.hostCount >= MAX_HOSTS) {
                return fail(3);
            }
            text.advance();
            if (text.kind != Text.WORD) {
                return fail(1);
            }
            if (text.letters() > MAX_LETTERS) {
                return fail(2);
            }
            long name = text.asName();
            if (nets.hostNamed(name) != NONE) {
                return fail(3);
            }
            text.advance();
            if (!takeNumber(0, OFFICES - 1)) {
                return false;
            }
            int office = taken;
            if (!isNumber(1, MAX_NUMBER)) {
                return false;
            }
            if (nets.holderInOffice(office, text.number) != NONE) {
                return fail(3);
            }
            int host = nets.appendHost(name, office, text.number);
            text.advance();
            if (host != NONE && text.isWord("pinned")) {
                nets.pinned[host] = 1;
                text.advance();
            }
            return true;
        }

        private boolean readRule() {
            if (nets.ruleCount >= MAX_RULES) {
                return fail(3);
            }
            text.advance();
            if (!takeNumber(0, OFFICES - 1)) {
                return false;
            }
            int office = taken;
            boolean allow = text.isWord("allow");
            if (!allow && !text.isWord("deny")) {
                return fail(1);
            }
            text.advance();
            if (!takeSide()) {
                return false;
            }
            int first = taken;
            if (!takeSide()) {
                return false;
            }
            nets.appendRule(office, allow, first, taken);
            return true;
        }

        private boolean takeSide() {
            if (text.isWord("any")) {
                taken = 0;
                text.advance();
                return true;
            }
            return takeNumber(1, MAX_NUMBER);
        }

        private boolean readMove() {
            text.advance();
            if (text.kind != Text.WORD) {
                return fail(1);
            }
            int host = nets.hostNamed(text.asName());
            if (host == NONE || nets.pinned[host] == 1 || nets.planWave[host] != 0) {
                return fail(4);
            }
            text.advance();
            if (!takeNumber(1, MAX_NUMBER)) {
                return false;
            }
            int number = taken;
            if (!isNumber(1, MAX_WAVES)) {
                return false;
            }
            if (nets.plansIn(text.number) >= nets.per) {
                return fail(4);
            }
            nets.setPlan(host, number, text.number);
            text.advance();
            return true;
        }

        private boolean takeWord(String word) {
            if (!text.isWord(word)) {
                return fail(1);
            }
            text.advance();
            return true;
        }

        private boolean takeSemicolon() {
            if (!text.isSign(';')) {
                return fail(1);
            }
            text.advance();
            return true;
        }

        private boolean takeNumber(int least, int most) {
            if (!isNumber(least, most)) {
                return false;
            }
            taken = text.number;
            text.advance();
            return true;
        }

        private boolean isNumber(int least, int most) {
            boolean within = text.number >= least && text.number <= most;
            error = text.kind != Text.NUMBER ? 1 : within ? 0 : 2;
            return error == 0;
        }

        private boolean fail(int code) {
            error = code;
            return false;
        }
    }

    /**
     * Reads a query into steps in postfix order, and answers it for all hosts at once: a set of
     * hosts is a long with one bit for each of them.
     */
    private static final class Query {
        private static final int MAX_OPEN = 6;
        private static final int MAX_VALUE = 9999;
        /** A comparison takes at least three bytes of the text and makes three steps. */
        private static final int MAX_STEPS = MAX_QUERY + 3;
        private static final int NOT = 0;
        private static final int AND = 1;
        private static final int OR = 2;
        /** Properties stand in steps as negative numbers, where values of the text are not. */
        private static final int HOST = -1;
        private static final int OFFICE = -2;
        private static final int ITS_NUMBER = -3;
        private static final int OLD = -4;
        private static final int PINNED = -5;
        private static final int PLANNED = -6;
        private static final int WAVE = -7;
        private static final int CLASH = -8;
        private static final int REACH = -9;

        private final Text text;
        private final int[] steps = new int[MAX_STEPS];
        private int stepCount;
        private boolean many;
        private int error;
        private final long[] sets = new long[MAX_STEPS];
        private int setCount;
        private final int[] reaches = new int[MAX_HOSTS];
        private boolean reachesKnown;

        private Query(Text text) {
            this.text = text;
        }

        /** Answers the error code, 0 without one; the text then looks at the wrong token. */
        private int readQuery() {
            error = 0;
            stepCount = 0;
            many = text.isWord("many");
            if (!many && !text.isWord("first")) {
                return 1;
            }
            text.advance();
            readTest(0);
            if (error == 0 && text.kind != Text.END) {
                error = 1;
            }
            return error;
        }

        /** An 'or' is put off until its right conjunction has ended, as 'and' binds closer. */
        private void readTest(int open) {
            boolean orWaits = false;
            readFactor(open);
            for (int i = 0; i < MAX_QUERY && error == 0 && (text.isWord("and") || text.isWord("or")); i++) {
                boolean and = text.isWord("and");
                text.advance();
                if (!and && orWaits) {
                    addStep(OR);
                }
                orWaits = orWaits || !and;
                readFactor(open);
                if (and) {
                    addStep(AND);
                }
            }
            if (orWaits) {
                addStep(OR);
            }
        }

        private void readFactor(int open) {
            boolean not = text.isWord("not");
            if (!not && !text.isSign('(')) {
                readComparison();
                return;
            }
            if (open >= MAX_OPEN) {
                error = 3;
                return;
            }
            text.advance();
            if (not) {
                readFactor(open + 1);
                addStep(NOT);
                return;
            }
            readTest(open + 1);
            if (error == 0 && !text.isSign(')')) {
                error = 1;
            }
            if (error == 0) {
                text.advance();
            }
        }

        private void readComparison() {
            int left = readValue();
            if (error != 0) {
                return;
            }
            if (!text.isSign('<') && !text.isSign('=') && !text.isSign('>')) {
                error = 1;
                return;
            }
            int comparison = text.isSign('<') ? '<' : text.isSign('=') ? '=' : '>';
            text.advance();
            int right = readValue();
            addStep(comparison);
            addStep(left);
            addStep(right);
        }

        private int readValue() {
            int value = text.kind == Text.NUMBER ? text.number : property();
            if (text.kind != Text.NUMBER && value == 0) {
                error = 1;
            } else if (value > MAX_VALUE) {
                error = 2;
            } else {
                text.advance();
            }
            return value;
        }

        /** The property that the word names, 0 if it names none. */
        private int property() {
            return text.isWord("host") ? HOST
                    : text.isWord("office") ? OFFICE
                    : text.isWord("number") ? ITS_NUMBER
                    : text.isWord("old") ? OLD
                    : text.isWord("pinned") ? PINNED
                    : text.isWord("planned") ? PLANNED
                    : text.isWord("wave") ? WAVE
                    : text.isWord("clash") ? CLASH
                    : text.isWord("reach") ? REACH
                    : 0;
        }

        private void addStep(int step) {
            if (stepCount < MAX_STEPS) {
                steps[stepCount] = step;
                stepCount++;
            }
        }

        private long hostsThatPass(Nets nets, Tally tally) {
            long all = (1L << nets.hostCount) - 1;
            setCount = 0;
            reachesKnown = false;
            int at = 0;
            while (at < stepCount) {
                int step = steps[at];
                at++;
                if (step == NOT) {
                    push(all & ~pop());
                } else if (step == AND) {
                    push(pop() & pop());
                } else if (step == OR) {
                    push(pop() | pop());
                } else if (at + 1 < stepCount) {
                    push(compared(step, steps[at], steps[at + 1], nets, tally));
                    at += 2;
                }
            }
            return pop();
        }

        private void push(long set) {
            if (setCount < MAX_STEPS) {
                sets[setCount] = set;
                setCount++;
            }
        }

        private long pop() {
            if (setCount < 1) {
                return 0;
            }
            setCount--;
            return sets[setCount];
        }

        private long compared(int comparison, int left, int right, Nets nets, Tally tally) {
            if (left == REACH || right == REACH) {
                findReaches(nets);
            }
            long set = 0;
            for (int host = 0; host < nets.hostCount; host++) {
                int a = valueFor(host, left, nets, tally);
                int b = valueFor(host, right, nets, tally);
                if (comparison == '<' ? a < b : comparison == '=' ? a == b : a > b) {
                    set |= 1L << host;
                }
            }
            return set;
        }

        /** What hosts reach is dear to find out, so it is done once for a query at most. */
        private void findReaches(Nets nets) {
            if (reachesKnown) {
                return;
            }
            for (int host = 0; host < nets.hostCount; host++) {
                reaches[host] = nets.reachOf(host);
            }
            reachesKnown = true;
        }

        private int valueFor(int host, int value, Nets nets, Tally tally) {
            switch (value) {
                case HOST: return host;
                case OFFICE: return nets.office[host];
                case ITS_NUMBER: return nets.number[host];
                case OLD: return nets.keptBy(host);
                case PINNED: return nets.pinned[host];
                case PLANNED: return nets.planNumber[host];
                case WAVE: return nets.planWave[host];
                case CLASH: return tally.isClash(nets.number[host]) || tally.isClash(nets.keptBy(host)) ? 1 : 0;
                case REACH: return reaches[host];
                default: return value;
            }
        }
    }

    /** The text of the most recent call of format. */
    private static final class Line {
        /** A name, three numbers and a wave with all signs between them take 24 bytes. */
        private static final int MAX_LINE = 32;

        private final byte[] bytes = new byte[MAX_LINE];
        private int length;

        private void clear() {
            length = 0;
        }

        private void addSign(int sign) {
            if (length < MAX_LINE) {
                bytes[length] = (byte) sign;
                length++;
            }
        }

        private void addName(long name) {
            for (int i = 0; i < MAX_LETTERS && letterOf(name, i) != 0; i++) {
                addSign(letterOf(name, i));
            }
        }

        private void addNumber(int number) {
            if (number >= 100) {
                addSign('0' + number / 100);
            }
            if (number >= 10) {
                addSign('0' + number / 10 % 10);
            }
            addSign('0' + number % 10);
        }

        private int byteAt(int index) {
            return index < 0 || index >= length ? NONE : bytes[index];
        }
    }
}
