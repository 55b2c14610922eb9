import java.util.NoSuchElementException;

/** Promises 36 to 41 with section 6, sentence by sentence: format, undo and the snapshot. */
public final class EdgeWaysBackTest {
    private static final String TEXT = "nets keep 2 per 1 pool 240 241;host a 0 10;host b 1 10;host c 1 20;host d 0 30 pinned;"
            + "rule 0 allow 10 any;rule 1 deny 20 10;move a 40 1;move c 50 9;";

    private interface Operation {
        int done(NetMerge x);
    }

    public static void main(String[] args) {
        formatParts();
        formatNumbers();
        formatRange();
        formattedByteRange();
        formattedAsItWasThen();
        undoCounts();
        undoOfTheTenMostRecent();
        undoRestoresEverything();
        undoOfOperationsThatChangeNothing();
        refusedOperationsAreNotRecorded();
        otherCallsAreNotRecorded();
        undoKeepsTheBuffer();
        undoOfFullTables();
        snapshotOfEverything();
        snapshotReplaced();
        restoreClearsTheHistory();
        restoreWithoutSnapshot();
        Check.end("EdgeWaysBackTest");
    }

    /** P36: "its name, ' ', its number, '+' and the number that it keeps, '!' if it is pinned, and ' > ' ... '@' ...". */
    private static void formatParts() {
        formatted("the shortest name and number", "nets;host a 0 1;", 0, "a 1");
        formatted("the longest name and number", "nets;host abcdefgh 1 250;", 0, "abcdefgh 250");
        formatted("a number of two digits", "nets;host ab 1 10;", 0, "ab 10");
        formatted("no leading zeros", "nets;host ab 1 00099;host c 0 0100;", 0, "ab 99");
        formatted("a zero in it", "nets;host c 0 0100;", 0, "c 100");
        formatted("zeros in it", "nets;host c 0 209;", 0, "c 209");
        formatted("pinned", "nets;host a 0 5 pinned;", 0, "a 5!");
        formatted("planned", "nets;host a 0 5;move a 6 1;", 0, "a 5 > 6@1");
        formatted("planned, two digits", "nets;host a 0 5;move a 10 5;", 0, "a 5 > 10@5");
        formatted("planned, the greatest", "nets;host a 0 5;move a 250 9;", 0, "a 5 > 250@9");
        formatted("one that keeps", "nets;host a 0 5;move a 6 1;", 1, "a 6+5");
        formatted("one that keeps the greatest", "nets;host a 0 250;move a 1 1;", 1, "a 1+250");
        formatted("one that keeps two digits", "nets;host a 0 19;move a 90 1;", 1, "a 90+19");
        formatted("one that keeps its own number", "nets;host a 0 5;move a 5 1;", 1, "a 5+5");
        formatted("one that keeps no longer", "nets;host a 0 5;move a 6 1;", 2, "a 6");
        formatted("one that never kept", "nets keep 0;host a 0 5;move a 6 1;", 1, "a 6");
        NetMerge x = Check.made("nets;host abcdefgh 0 200;host b 1 5;move abcdefgh 250 1;");
        x.wave();
        x.plan(0, 100, 9);
        Check.due("P36 the longest of all", x.format(0), 24);
        Check.due("P37 the longest of all", Check.lastFormatted(x), "abcdefgh 250+200 > 100@9");
        x.setPinned(0, true);
        Check.due("P36 keeps and is pinned", x.format(0), 17);
        Check.due("P37 keeps and is pinned", Check.lastFormatted(x), "abcdefgh 250+200!");
        x.addHost(0, 7);
        Check.due("P36 without a name", x.format(2), 2);
        Check.due("P37 without a name", Check.lastFormatted(x), " 7");
        x.plan(2, 8, 3);
        Check.due("P36 without a name, planned", x.format(2), 8);
        Check.due("P37 without a name, planned", Check.lastFormatted(x), " 7 > 8@3");
    }

    private static void formatted(String what, String text, int waves, String want) {
        NetMerge x = Check.made(text);
        Check.waves(x, waves);
        Check.due("P36 " + what, x.format(0), want.length());
        Check.due("P37 " + what, Check.lastFormatted(x), want);
    }

    /** P36: "Numbers have no leading zeros." */
    private static void formatNumbers() {
        for (int number = 1; number <= 250; number++) {
            int next = number % 250 + 1;
            NetMerge x = new NetMerge();
            x.addHost(0, number);
            x.plan(0, next, 1);
            Check.due("P36 " + number + " to " + next, Check.formatted(x, 0), " " + number + " > " + next + "@1");
            x.wave();
            Check.due("P36 " + next + " from " + number, Check.formatted(x, 0), " " + next + "+" + number);
        }
    }

    private static void formatRange() {
        NetMerge x = Check.made("nets;host a 0 5;host b 1 6;");
        int[] wrong = {-1, 2, 3, 40, Integer.MIN_VALUE, Integer.MAX_VALUE};
        for (int host : wrong) {
            Check.refused("P36 host " + host, x, NoSuchElementException.class, () -> x.format(host));
        }
        Check.due("P37 no text by calls that throw", x.formattedByte(0), NetMerge.NONE);
        x.format(1);
        for (int host : wrong) {
            Check.refused("P36 host " + host + ", behind a text", x, NoSuchElementException.class, () -> x.format(host));
        }
        Check.due("P37 the text of the call that did not throw", Check.lastFormatted(x), "b 6");
        Check.missing("P36 no hosts", () -> new NetMerge().format(0));
        Check.due("P36 no operation", x.undoCount(), 0);
    }

    /** P37: "NONE if index is out of range or there was no such call". */
    private static void formattedByteRange() {
        NetMerge x = Check.made("nets;host ab 0 250;");
        int[] all = {-1, 0, 1, 23, 24, 31, 32, Integer.MIN_VALUE, Integer.MAX_VALUE};
        for (int index : all) {
            Check.due("P37 there was no such call: " + index, x.formattedByte(index), NetMerge.NONE);
        }
        x.format(0);
        int[] due = {'a', 'b', ' ', '2', '5', '0'};
        for (int index = 0; index < 6; index++) {
            Check.due("P37 byte " + index, x.formattedByte(index), due[index]);
        }
        int[] none = {-1, -6, 6, 7, 23, 24, 31, 32, Integer.MIN_VALUE, Integer.MAX_VALUE};
        for (int index : none) {
            Check.due("P37 index " + index, x.formattedByte(index), NetMerge.NONE);
        }
        x.removeHost(0);
        x.addHost(0, 9);
        x.format(0);
        Check.due("P37 the first byte of a text without a name", x.formattedByte(0), (int) ' ');
        for (int index = 2; index < 8; index++) {
            Check.due("P37 nothing of the longer text: " + index, x.formattedByte(index), NetMerge.NONE);
        }
    }

    /** P37: "as it was then (also behind load, undo and restoreSnapshot)". */
    private static void formattedAsItWasThen() {
        NetMerge x = Check.made("nets;host a 0 5;host b 1 6;");
        x.saveSnapshot();
        x.plan(0, 7, 1);
        x.format(0);
        String then = "a 5 > 7@1";
        x.unplan(0);
        Check.due("P37 behind an operation", Check.lastFormatted(x), then);
        x.undo();
        x.undo();
        Check.due("P37 behind undo", Check.lastFormatted(x), then);
        x.removeHost(0);
        Check.due("P37 behind removeHost", Check.lastFormatted(x), then);
        x.restoreSnapshot();
        Check.due("P37 behind restoreSnapshot", Check.lastFormatted(x), then);
        Check.load(x, "nets;host q 0 9;");
        Check.due("P37 behind load", Check.lastFormatted(x), then);
        Check.load(x, "nets");
        Check.due("P37 behind a load with an error", Check.lastFormatted(x), then);
        Check.query(x, "many 1=1");
        Check.due("P37 behind query", Check.lastFormatted(x), then);
        x.format(0);
        Check.due("P37 the most recent call", Check.lastFormatted(x), "q 9");
    }

    /** P38: "the number of operations that can be undone"; P39: "NONE if there was nothing to undo". */
    private static void undoCounts() {
        NetMerge x = new NetMerge();
        Check.due("P38 none", x.undoCount(), 0);
        Check.refused("P39 nothing to undo", x, NetMerge.NONE, () -> x.undo());
        for (int i = 1; i <= 12; i++) {
            x.addRule(0, true, i, 0);
            Check.due("P38 behind " + i, x.undoCount(), Math.min(i, 10));
        }
        for (int left = 9; left >= 0; left--) {
            Check.due("P39 how many can still be undone", x.undo(), left);
            Check.due("P38 how many can still be undone", x.undoCount(), left);
        }
        Check.refused("P39 nothing more to undo", x, NetMerge.NONE, () -> x.undo());
        Check.due("P39 what is left", x.size(1), 2);
    }

    /** Section 6: "The 10 most recent operations can be undone, the most recent one first." */
    private static void undoOfTheTenMostRecent() {
        for (int count = 9; count <= 11; count++) {
            NetMerge x = new NetMerge();
            for (int i = 1; i <= count; i++) {
                x.addHost(0, i);
            }
            int undone = Math.min(count, 10);
            for (int i = 1; i <= undone; i++) {
                x.undo();
                Check.due("P39 the most recent one first, of " + count, x.size(0), count - i);
            }
            Check.due("P39 no more of " + count, x.undo(), NetMerge.NONE);
            Check.due("P39 what is left of " + count, x.size(0), count - undone);
        }
        NetMerge x = new NetMerge();
        for (int i = 1; i <= 40; i++) {
            x.addHost(0, i);
            if (i % 4 == 0) {
                Check.due("P39 undone in between", x.undo(), Math.min(9, i * 3 / 4));
            }
        }
        Check.due("P39 thirty are there", x.size(0), 30);
        for (int i = 1; x.undoCount() > 0; i++) {
            x.undo();
            Check.due("P39 one less each", x.size(0), 30 - i);
        }
        Check.due("P39 as many as nine undone more", x.size(0), 21);
    }

    /** P39: "Undoing restores everything that the operation changed", each operation on its own. */
    private static void undoRestoresEverything() {
        undone("addHost", x -> x.addHost(1, 99));
        undone("removeHost, the first", x -> x.removeHost(0));
        undone("removeHost, the last", x -> x.removeHost(x.size(0) - 1));
        undone("plan", x -> x.plan(1, 77, 7));
        undone("plan in place of another", x -> x.plan(2, 77, 7));
        undone("unplan", x -> x.unplan(2));
        undone("settle", NetMerge::settle);
        undone("wave", NetMerge::wave);
        undone("back", NetMerge::back);
        undone("open", NetMerge::open);
        undone("close", NetMerge::close);
        undone("addRule", x -> x.addRule(1, true, 0, 0));
        undone("removeRule", x -> x.removeRule(0));
        undone("setKeep", x -> x.setKeep(0));
        undone("setPinned", x -> x.setPinned(2, true));
        undone("setPinned, let go", x -> x.setPinned(x.size(0) - 1, false));
    }

    /** In several states: what undoing leaves must also go on as it would have gone on. */
    private static void undone(String name, Operation operation) {
        boolean done = false;
        for (int state = 0; state < 8; state++) {
            NetMerge x = inState(state);
            String before = Check.shown(x);
            int count = x.undoCount();
            int answer = operation.done(x);
            String behind = Check.asks(x);
            String what = name + " in state " + state;
            if (answer >= 0) {
                done |= !Check.shown(x).equals(before);
                Check.due("P38 " + what, x.undoCount(), Math.min(10, count + 1));
                Check.due("P39 " + what, x.undo(), Math.min(9, count));
            }
            Check.due("P39 as ahead of " + what, Check.shown(x), before);
            Check.due("P39 what is asked behind " + what, Check.asks(x), Check.asks(inState(state)));
            NetMerge y = inState(state);
            operation.done(y);
            Check.due("P39 what is asked then does not hang on what was asked, " + what, Check.asks(y), behind);
            y.undo();
            Check.due("P39 what comes of it behind " + what, answer < 0 ? "" : future(y), answer < 0 ? "" : future(inState(state)));
        }
        Check.due("P39 " + name + " changed something", done, true);
    }

    private static NetMerge inState(int state) {
        NetMerge x = Check.made(TEXT);
        Check.waves(x, state % 4 == 0 ? 0 : state % 4 + (state > 4 ? 1 : 0));
        if (state > 4) {
            x.removeHost(1);
            x.open();
        }
        x.addRule(0, true, 30, 0);
        return x;
    }

    private static String future(NetMerge x) {
        StringBuilder all = new StringBuilder();
        all.append(x.wave()).append(Check.shown(x)).append(x.back()).append(x.back()).append(Check.shown(x));
        return all.append(x.back()).append(Check.shown(x)).toString();
    }

    /** Section 6: "Every successful call is recorded, even if it changes nothing". */
    private static void undoOfOperationsThatChangeNothing() {
        NetMerge x = Check.made("nets;host a 0 5;host b 0 6 pinned;move a 7 2;rule 0 allow any any;");
        String before = Check.shown(x);
        x.unplan(1);
        x.settle();
        x.setKeep(1);
        x.setPinned(0, false);
        x.setPinned(1, true);
        x.plan(0, 7, 2);
        Check.due("P38 six calls that change nothing", x.undoCount(), 6);
        Check.due("P38 they change nothing", Check.shown(x), before);
        x.wave();
        for (int left = 6; left >= 0; left--) {
            Check.due("P39 each is undone", x.undo(), left);
        }
        Check.due("P39 as in the beginning", Check.shown(x), before);
    }

    /** Section 6: "a call that returns a negative error code or throws an exception changes nothing". */
    private static void refusedOperationsAreNotRecorded() {
        NetMerge x = Check.made("nets keep 2 per 1;host a 0 5;host b 1 6 pinned;host c 0 7;host d 1 5;move a 8 1;");
        x.wave();
        x.addHost(0, 20);
        x.undo();
        String before = Check.stands(x);
        x.addHost(0, 8);
        x.plan(1, 9, 2);
        x.plan(0, 9, 1);
        x.close();
        x.open();
        Check.due("P38 refused calls", Check.stands(x), before);
        Check.missing("P24 throws", () -> x.removeHost(4));
        Check.missing("P33 throws", () -> x.removeRule(0));
        Check.missing("P26 throws", () -> x.unplan(-1));
        Check.missing("P35 throws", () -> x.setPinned(4, true));
        Check.illegal("P34 throws", () -> x.setKeep(4));
        Check.illegal("P25 throws", () -> x.plan(0, 9, 10));
        Check.illegal("P23 throws", () -> x.addHost(0, 0));
        Check.illegal("P32 throws", () -> x.addRule(0, true, 1, 251));
        Check.due("P38 calls that throw", Check.stands(x), before);
        Check.due("P39 the one operation is still there", x.undo(), 0);
        Check.due("P39 it was the wave", Check.host(x, 0), "0 5 0 0 8 1 0");
    }

    /** Section 6 names the operations: no other call is one. */
    private static void otherCallsAreNotRecorded() {
        NetMerge x = Check.made(TEXT);
        x.addHost(0, 1);
        x.addHost(0, 2);
        Check.query(x, "many 1=1");
        x.format(0);
        x.formattedByte(0);
        x.saveSnapshot();
        x.freeNumber();
        x.whyNot();
        x.conflict();
        x.rewrites();
        x.clashesIn(1);
        x.openIn();
        x.decides(0, 1, 2);
        x.reach(0);
        Check.due("P38 two operations", x.undoCount(), 2);
        x.undo();
        Check.due("P38 undo is none", x.undoCount(), 1);
        x.undo();
        Check.due("P39 both are undone", Check.shown(x), Check.shown(Check.made(TEXT)));
        x.addRule(0, true, 1, 1);
        Check.due("P38 a new one behind undo", x.undoCount(), 1);
    }

    /** Section 6: "but not the buffer, the error position and the text of format". */
    private static void undoKeepsTheBuffer() {
        NetMerge x = Check.made("nets;host a 0 5;");
        x.saveSnapshot();
        Check.query(x, "first !");
        x.addHost(0, 6);
        x.format(1);
        Check.feed(x, "many number=6       ");
        x.undo();
        Check.due("P39 the error position", x.errorPosition(), 6);
        Check.due("P39 the text of format", Check.lastFormatted(x), " 6");
        Check.due("P39 the buffer", x.query(13), 0);
        x.addHost(0, 6);
        Check.query(x, "first  !");
        Check.feed(x, "many number=5       ");
        x.restoreSnapshot();
        Check.due("P41 the error position", x.errorPosition(), 7);
        Check.due("P41 the text of format", Check.lastFormatted(x), " 6");
        Check.due("P41 the buffer", x.query(13), 1);
    }

    /** The last of 40 hosts and of 30 rules are restored like the others. */
    private static void undoOfFullTables() {
        Check.due("P3 the last two hosts and rules, behind two waves", lastOnes(full()),
                "sb 0 39 0 0 0 0 0, zz 1 140 40 0 77 9 2, 0 0 101 7, 1 1 140 9, waves 2 hosts 40 rules 30");
        lastOfAll("removeHost", x -> x.removeHost(39));
        lastOfAll("removeHost, the first", x -> x.removeHost(0));
        lastOfAll("removeRule", x -> x.removeRule(29));
        lastOfAll("removeRule, the first", x -> x.removeRule(0));
        lastOfAll("wave", NetMerge::wave);
        lastOfAll("back", NetMerge::back);
        lastOfAll("plan", x -> x.plan(39, 111, 8));
        lastOfAll("unplan", x -> x.unplan(39));
        lastOfAll("setPinned", x -> x.setPinned(39, true));
        lastOfAll("setKeep", x -> x.setKeep(0));
        lastOfAll("removeHost, twice", x -> x.removeHost(39) + x.removeHost(38) + x.addHost(1, 222) + x.addHost(0, 223));
        lastOfAll("removeRule and addRule", x -> x.removeRule(29) + x.addRule(1, true, 222, 223));
    }

    private static void lastOfAll(String what, Operation operation) {
        NetMerge x = full();
        String before = lastOnes(x);
        int count = x.undoCount();
        x.saveSnapshot();
        int answer = operation.done(x);
        Check.due("P39 " + what + " is not refused", answer >= 0, true);
        Check.due("P39 " + what + " changes something", lastOnes(x).equals(before), false);
        for (int i = 0; i < 10 && x.undoCount() > count; i++) {
            x.undo();
        }
        Check.due("P39 behind " + what, lastOnes(x), before);
        operation.done(x);
        x.restoreSnapshot();
        Check.due("P41 behind " + what, lastOnes(x), before);
        Check.due("P29 its move behind " + what, x.back() * 1000 + x.host(39, 1), 1040);
    }

    /** 40 hosts and 30 rules, the last of each with all that it can have, and two waves done. */
    private static NetMerge full() {
        StringBuilder text = new StringBuilder("nets keep 2 per 2;");
        for (int i = 0; i < 40; i++) {
            text.append("host").append(i == 39 ? " zz" : " " + (char) ('a' + i % 20) + (char) ('a' + i / 20));
            text.append(i % 2).append(' ').append(1 + i).append(';');
        }
        for (int i = 0; i < 29; i++) {
            text.append("rule0deny1 7;");
        }
        NetMerge x = Check.made(text + "rule 1allow40 9;move zz 140 2;");
        x.plan(0, 101, 1);
        x.wave();
        x.wave();
        x.plan(39, 77, 9);
        // a text with an error, of which nothing may stay
        Check.load(x, "nets pool 1 2;host zz 0 3;rule 0 allow any any;nope");
        return x;
    }

    private static String lastOnes(NetMerge x) {
        StringBuilder all = new StringBuilder();
        for (int host = Math.max(0, x.size(0) - 2); host < x.size(0); host++) {
            for (int i = 0; i < 8 && x.name(host, i) != NetMerge.NONE; i++) {
                all.append((char) x.name(host, i));
            }
            all.append(' ').append(Check.host(x, host)).append(", ");
        }
        for (int rule = Math.max(0, x.size(1) - 2); rule < x.size(1); rule++) {
            all.append(x.rule(rule, 0)).append(' ').append(x.rule(rule, 1)).append(' ');
            all.append(x.rule(rule, 2)).append(' ').append(x.rule(rule, 3)).append(", ");
        }
        all.append("waves ").append(x.size(3)).append(" hosts ").append(x.size(0)).append(" rules ").append(x.size(1));
        return all.toString();
    }

    /** P40: "a snapshot of everything that undoing restores"; P41: "The snapshot is kept." */
    private static void snapshotOfEverything() {
        for (int state = 0; state < 8; state++) {
            NetMerge x = inState(state);
            String saved = Check.shown(x);
            int count = x.undoCount();
            x.saveSnapshot();
            Check.due("P40 it changes nothing, state " + state, Check.shown(x), saved);
            Check.due("P40 it is no operation, state " + state, x.undoCount(), count);
            future(x);
            x.setKeep(0);
            x.removeRule(0);
            x.addHost(1, 200);
            x.setPinned(0, true);
            x.removeHost(0);
            Check.due("P41 restored, state " + state, x.restoreSnapshot(), true);
            Check.due("P41 as it was, state " + state, Check.shown(x), saved);
            Check.due("P41 what comes of it, state " + state, future(x), future(inState(state)));
            Check.due("P41 it is kept, state " + state, x.restoreSnapshot(), true);
            Check.due("P41 as it was once more, state " + state, Check.shown(x), saved);
        }
    }

    /** P40: "It replaces an earlier snapshot." */
    private static void snapshotReplaced() {
        NetMerge x = new NetMerge();
        x.saveSnapshot();
        x.addHost(0, 1);
        x.saveSnapshot();
        x.addHost(0, 2);
        x.restoreSnapshot();
        Check.due("P40 the later one", x.size(0), 1);
        x.removeHost(0);
        x.addRule(0, true, 1, 1);
        x.saveSnapshot();
        x.addHost(0, 3);
        x.restoreSnapshot();
        Check.due("P40 the latest one", x.size(0) * 10 + x.size(1), 1);
        Check.load(x, "nets; ?");
        Check.due("P40 a load with an error keeps it", x.restoreSnapshot(), true);
        Check.load(x, "nets;");
        Check.due("P40 a good load discards it", x.restoreSnapshot(), false);
        x.saveSnapshot();
        Check.due("P40 a new one behind load", x.restoreSnapshot(), true);
        Check.due("P40 which is empty", x.size(1), 0);
    }

    /** P41: "Restores the snapshot and clears the undo history." */
    private static void restoreClearsTheHistory() {
        NetMerge x = new NetMerge();
        x.addHost(0, 1);
        x.saveSnapshot();
        for (int i = 2; i <= 15; i++) {
            x.addHost(0, i);
        }
        Check.due("P38 ten ahead", x.undoCount(), 10);
        Check.due("P41 true", x.restoreSnapshot(), true);
        Check.due("P41 the undo history is cleared", x.undoCount(), 0);
        Check.due("P41 nothing to undo", x.undo(), NetMerge.NONE);
        Check.due("P41 the hosts of the snapshot", x.size(0), 1);
        x.addHost(0, 2);
        Check.due("P38 one behind it", x.undoCount(), 1);
        Check.due("P39 back to the snapshot, not beyond", x.undo() * 10 + x.size(0), 1);
        x.saveSnapshot();
        x.addHost(0, 3);
        x.undo();
        x.undo();
        Check.due("P40 undo keeps the snapshot", x.restoreSnapshot(), true);
    }

    /** P41: "false if there is no snapshot (nothing changes)". */
    private static void restoreWithoutSnapshot() {
        NetMerge x = Check.made(TEXT);
        x.addHost(0, 1);
        Check.query(x, "many");
        x.format(4);
        Check.feed(x, "many 1=1            ");
        Check.refused("P41 no snapshot", x, false, () -> x.restoreSnapshot());
        Check.due("P41 the buffer stays", x.query(8), 5);
        Check.due("P41 the undo history stays", x.undo(), 0);
    }
}
