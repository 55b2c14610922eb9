/** Promises 38 to 41: undo and the snapshot. */
public final class UndoTest {
    private static final String TEXT = "nets keep 2;host a 0 10;host b 1 10;host c 1 20;host d 0 30 pinned;"
            + "rule 0 allow 10 any;rule 1 deny 20 10;move a 40 2;move b 50 3;";

    public static void main(String[] args) {
        everyOperation();
        tenAtMost();
        refusedCalls();
        notRestored();
        snapshots();
        snapshotAndUndo();
        Check.end("UndoTest");
    }

    private static void everyOperation() {
        undone("addHost", x -> x.addHost(0, 99));
        undone("removeHost", x -> x.removeHost(0));
        undone("removeHost, the last", x -> x.removeHost(3));
        undone("plan", x -> x.plan(0, 77, 5));
        undone("unplan", x -> x.unplan(1));
        undone("unplan without a plan", x -> x.unplan(2));
        undone("settle", NetMerge::settle);
        undone("wave", NetMerge::wave);
        undone("back", NetMerge::back);
        undone("open", NetMerge::open);
        undone("close", NetMerge::close);
        undone("addRule", x -> x.addRule(1, true, 0, 0));
        undone("removeRule", x -> x.removeRule(0));
        undone("setKeep", x -> x.setKeep(0));
        undone("setKeep to the same", x -> x.setKeep(2));
        undone("setPinned", x -> x.setPinned(0, true));
        undone("setPinned, let go", x -> x.setPinned(3, false));
        undone("setPinned as it is", x -> x.setPinned(3, true));
    }

    private interface Operation {
        int done(NetMerge x);
    }

    /** Tries an operation in several states, in at least one of which it is not refused. */
    private static void undone(String name, Operation operation) {
        boolean recorded = false;
        for (int waves = 0; waves <= 5; waves++) {
            NetMerge x = Check.made(TEXT);
            for (int done = 0; done < waves; done++) {
                x.wave();
            }
            recorded |= undoneHere(name + " behind " + waves + " waves", x, operation);
            if (x.open() >= 0) {
                recorded |= undoneHere(name + " when open", x, operation);
            }
        }
        Check.due("P39 " + name + " is recorded", recorded, true);
    }

    private static boolean undoneHere(String what, NetMerge x, Operation operation) {
        String before = Check.shown(x);
        int count = x.undoCount();
        int answer = operation.done(x);
        if (answer < 0) {
            Check.due("P39 refused " + what, x.undoCount(), count);
            Check.due("P39 refused " + what, Check.shown(x), before);
            return false;
        }
        String behind = Check.shown(x);
        Check.due("P38 " + what, x.undoCount(), count + 1);
        Check.due("P39 undo of " + what, x.undo(), count);
        Check.due("P39 as ahead of " + what, Check.shown(x), before);
        Check.due("P39 again " + what, operation.done(x), answer);
        Check.due("P39 again " + what, Check.shown(x), behind);
        x.undo();
        return true;
    }

    private static void tenAtMost() {
        NetMerge x = new NetMerge();
        Check.due("P38 nothing was done", x.undoCount(), 0);
        Check.due("P39 nothing to undo", x.undo(), -1);
        for (int i = 1; i <= 13; i++) {
            x.addHost(0, i);
            Check.due("P38 after " + i, x.undoCount(), Math.min(10, i));
        }
        for (int left = 9; left >= 0; left--) {
            Check.due("P39 left", x.undo(), left);
            Check.due("P38 left", x.undoCount(), left);
            Check.due("P39 hosts", x.size(0), left + 3);
        }
        Check.due("P39 no more", x.undo(), -1);
        Check.due("P39 the hosts of the first three", x.size(0), 3);
        for (int i = 1; i <= 25; i++) {
            x.addRule(0, true, i, 0);
            x.addRule(0, true, i, 1);
            x.undo();
        }
        Check.due("P38 of at most 10 one is undone", x.undoCount(), 9);
        for (int left = 8; left >= 0; left--) {
            Check.due("P39 in a ring", x.undo(), left);
            Check.due("P39 rules", x.size(1), left + 16);
        }
    }

    private static void refusedCalls() {
        NetMerge x = Check.made(TEXT);
        x.unplan(3);
        x.addHost(0, 10);
        x.plan(3, 1, 1);
        x.back();
        x.open();
        x.close();
        Check.missing("P39 an exception", () -> x.removeHost(9));
        Check.illegal("P39 another exception", () -> x.setKeep(9));
        Check.due("P38 refused calls are not recorded", x.undoCount(), 1);
    }

    private static void notRestored() {
        NetMerge x = Check.made(TEXT);
        x.addHost(0, 99);
        x.format(4);
        Check.query(x, "many 1 1");
        Check.feed(x, "many 1=1            ");
        x.undo();
        Check.due("P39 the error position stays", x.errorPosition(), 7);
        Check.due("P39 the text of format stays", Check.lastFormatted(x), " 99");
        Check.due("P39 the buffer stays", x.query(8), 4);
        x.undo();
        Check.due("P39 undo is no operation", x.undo(), -1);
    }

    private static void snapshots() {
        NetMerge x = Check.made(TEXT);
        String first = Check.shown(x);
        Check.due("P41 no snapshot", x.restoreSnapshot(), false);
        x.addHost(0, 99);
        Check.due("P41 no snapshot: nothing changes", x.restoreSnapshot(), false);
        Check.due("P41 no snapshot: the undo history stays", x.undoCount(), 1);
        x.undo();
        x.saveSnapshot();
        x.wave();
        x.wave();
        x.setKeep(3);
        x.setPinned(1, true);
        x.removeHost(2);
        x.removeRule(1);
        x.addRule(0, true, 3, 3);
        String second = Check.shown(x);
        Check.due("P41 restored", x.restoreSnapshot(), true);
        Check.due("P41 as it was", Check.shown(x), first);
        Check.due("P41 clears the undo history", x.undoCount(), 0);
        Check.due("P41 nothing to undo", x.undo(), -1);
        x.wave();
        Check.due("P41 the snapshot is kept", x.restoreSnapshot(), true);
        Check.due("P41 as it was again", Check.shown(x), first);
        x.addHost(1, 123);
        x.saveSnapshot();
        Check.due("P40 no operation", x.undoCount(), 1);
        String third = Check.shown(x);
        x.undo();
        Check.due("P40 undo does not reach it", Check.shown(x), first);
        x.restoreSnapshot();
        Check.due("P40 it replaces an earlier one", Check.shown(x), third);
        Check.due("P40 it is not the second state", second.equals(third), false);
        x.wave();
        x.back();
        Check.due("P41 a way back is restored, too", x.host(4, 1), 123);
    }

    private static void snapshotAndUndo() {
        NetMerge x = Check.made("nets keep 0;host a 0 5;move a 6 1;rule 0 allow 5 5;");
        x.wave();
        x.saveSnapshot();
        String moved = Check.shown(x);
        x.back();
        x.unplan(0);
        x.format(0);
        x.restoreSnapshot();
        Check.due("P41 behind back", Check.shown(x), moved);
        x.back();
        Check.due("P41 the snapshot has the moves", x.host(0, 1) * 100 + x.host(0, 4) * 10 + x.host(0, 5), 561);
        x.undo();
        Check.due("P39 behind undo", Check.shown(x), moved);
        x.back();
        Check.due("P39 undo restores the moves", x.host(0, 1) * 100 + x.host(0, 4) * 10 + x.host(0, 5), 561);
        NetMerge empty = new NetMerge();
        empty.saveSnapshot();
        empty.addHost(0, 1);
        Check.due("P40 of a new object", empty.restoreSnapshot(), true);
        Check.due("P40 it has no hosts", empty.size(0), 0);
    }
}
