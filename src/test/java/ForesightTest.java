/** Promises 16 to 22: what would be, and the shares. */
public final class ForesightTest {
    public static void main(String[] args) {
        whyNot();
        conflicts();
        rewrites();
        clashesIn();
        openIn();
        movedShare();
        meanReach();
        changesNothing();
        Check.end("ForesightTest");
    }

    private static void whyNot() {
        NetMerge x = Check.made("nets keep 2;host a 0 5;host b 0 6;move a 7 1;");
        Check.due("P16 it could be done", x.whyNot(), 0);
        x.wave();
        x.plan(0, 8, 2);
        Check.due("P16 a keeper would move", x.whyNot(), -3);
        x.plan(1, 5, 2);
        Check.due("P16 that comes ahead of two holders", x.whyNot(), -3);
        x.unplan(0);
        Check.due("P16 two holders", x.whyNot(), -4);
        x.unplan(1);
        for (int done = 1; done < 9; done++) {
            Check.due("P16 " + done + " waves", x.whyNot(), 0);
            x.wave();
        }
        Check.due("P16 9 waves", x.whyNot(), -2);
    }

    private static void conflicts() {
        NetMerge x = Check.made("nets;host a 0 5;host b 0 6;host c 1 9;host d 0 8;");
        Check.due("P17 none", x.conflict(), -1);
        x.plan(0, 6, 1);
        Check.due("P17 the number of a host that stays", x.conflict(), 6);
        x.plan(1, 7, 1);
        Check.due("P17 a number that is kept", x.conflict(), 6);
        x.setKeep(0);
        Check.due("P17 a number that is given up", x.conflict(), -1);
        x.plan(1, 5, 1);
        Check.due("P17 an exchange", x.conflict(), -1);
        x.setKeep(1);
        Check.due("P17 an exchange of keepers: the smallest", x.conflict(), 5);
        x.unplan(1);
        x.plan(0, 9, 1);
        Check.due("P17 the other net is closed", x.conflict(), -1);
        x.open();
        Check.due("P17 one net", x.conflict(), 9);
        x.plan(0, 30, 1);
        x.plan(1, 30, 1);
        Check.due("P17 two moves to a number", x.conflict(), 30);
        NetMerge y = Check.made("nets keep 3;host a 0 5;host b 0 6;move a 7 1;");
        y.wave();
        y.plan(0, 8, 2);
        Check.due("P17 done all the same: the keeper moves", y.conflict(), -1);
        y.plan(0, 6, 2);
        Check.due("P17 done all the same: to a held number", y.conflict(), 6);
        y.plan(0, 8, 2);
        y.plan(1, 7, 2);
        Check.due("P17 it would keep its latest number", y.conflict(), 7);
        y.plan(1, 5, 2);
        Check.due("P17 and the earlier one no longer", y.conflict(), -1);
        NetMerge last = Check.made("nets;host a 0 250;host b 0 6;move b 250 1;");
        Check.due("P17 the greatest number", last.conflict(), 250);
        Check.due("P16 the greatest number", last.whyNot(), -4);
        last.addHost(0, 1);
        last.plan(0, 1, 1);
        Check.due("P17 the least number", last.conflict(), 1);
        NetMerge z = Check.made("nets;host a 0 5;host b 0 6;");
        for (int done = 0; done < 9; done++) {
            z.wave();
        }
        Check.due("P17 9 waves", z.conflict(), -1);
    }

    private static void rewrites() {
        NetMerge x = Check.made("nets keep 0;host a 0 5;host b 1 5;host c 0 6;"
                + "rule 0 allow 5 5;rule 1 allow 5 any;rule 0 deny 6 5;rule 1 deny 6 5;");
        Check.due("P18 no moves", x.rewrites(), 0);
        x.plan(0, 9, 1);
        Check.due("P18 the sides of its net", x.rewrites(), 3);
        x.plan(2, 5, 1);
        Check.due("P18 each side once", x.rewrites(), 4);
        x.plan(0, 5, 1);
        Check.due("P18 refused", x.rewrites(), -1);
        x.unplan(2);
        Check.due("P18 a move to the same number", x.rewrites(), 0);
        x.plan(1, 8, 1);
        Check.due("P18 the other office", x.rewrites(), 2);
        Check.due("P28 it is done", x.wave(), 2);
        x.open();
        x.plan(0, 9, 2);
        Check.due("P18 open: all rules", x.rewrites(), 3);
        x.addRule(1, true, 5, 5);
        Check.due("P18 open: also those of the other office", x.rewrites(), 5);
        x.unplan(0);
        for (int done = 1; done < 9; done++) {
            x.wave();
        }
        Check.due("P18 9 waves", x.rewrites(), -1);
    }

    private static void clashesIn() {
        NetMerge x = Check.made("nets;host a 0 5;host b 1 5;host c 0 6;host d 1 6;move b 7 1;move d 8 2;");
        Check.due("P19 0", x.clashesIn(0), 2);
        Check.due("P19 1", x.clashesIn(1), 2);
        Check.due("P19 2", x.clashesIn(2), 1);
        Check.due("P19 3", x.clashesIn(3), 0);
        Check.due("P19 9", x.clashesIn(9), 0);
        x.plan(2, 5, 4);
        Check.due("P19 ahead of a refused wave", x.clashesIn(3), 0);
        Check.due("P19 a wave that is refused", x.clashesIn(4), -1);
        Check.due("P19 behind it", x.clashesIn(5), -1);
        x.wave();
        Check.due("P19 counted from now", x.clashesIn(1), 1);
        x.unplan(2);
        Check.due("P19 up to the ninth", x.clashesIn(8), 0);
        Check.due("P19 no tenth", x.clashesIn(9), -1);
        Check.illegal("P19 -1", () -> x.clashesIn(-1));
        Check.illegal("P19 10", () -> x.clashesIn(10));
        Check.illegal("P19 greatest", () -> x.clashesIn(Integer.MAX_VALUE));
    }

    private static void openIn() {
        Check.due("P20 no clashes", new NetMerge().openIn(), 0);
        NetMerge x = Check.made("nets;host a 0 5;host b 1 5;host c 0 6;move b 7 2;");
        Check.due("P20 kept for a wave", x.openIn(), 3);
        x.setKeep(0);
        Check.due("P20 kept no longer", x.openIn(), 2);
        x.setKeep(3);
        Check.due("P20 kept for three", x.openIn(), 5);
        x.plan(2, 5, 1);
        Check.due("P20 refused on the way", x.openIn(), -1);
        x.plan(2, 5, 6);
        Check.due("P20 refused behind it", x.openIn(), 5);
        x.unplan(2);
        x.plan(1, 7, 7);
        Check.due("P20 still kept behind the ninth", x.openIn(), -1);
        x.plan(1, 7, 6);
        Check.due("P20 free behind the ninth", x.openIn(), 9);
        x.wave();
        Check.due("P20 counted from now", x.openIn(), 8);
        x.unplan(1);
        Check.due("P20 nobody moves", x.openIn(), -1);
    }

    private static void movedShare() {
        NetMerge x = new NetMerge();
        Check.due("P21 no hosts", x.movedShare(), 0f);
        x.addHost(0, 1);
        x.addHost(0, 2);
        x.addHost(0, 3);
        Check.due("P21 none moved", x.movedShare(), 0f);
        x.plan(0, 11, 1);
        x.wave();
        Check.due("P21 one of three", x.movedShare(), 1f / 3f);
        x.plan(0, 12, 2);
        x.plan(1, 2, 2);
        x.wave();
        Check.due("P21 two, one of them twice and one to its own number", x.movedShare(), 2f / 3f);
        x.back();
        Check.due("P21 back from the second", x.movedShare(), 1f / 3f);
        x.removeHost(2);
        Check.due("P21 one of two", x.movedShare(), 0.5f);
        x.back();
        Check.due("P21 back from all", x.movedShare(), 0f);
    }

    private static void meanReach() {
        NetMerge x = new NetMerge();
        Check.due("P22 no hosts", x.meanReach(), 0.0);
        x.addHost(0, 1);
        x.addHost(0, 2);
        x.addHost(1, 3);
        Check.due("P22 no rules", x.meanReach(), 0.0);
        x.addRule(0, true, 1, 0);
        Check.due("P22 one in three", x.meanReach(), 1.0 / 3.0);
        x.open();
        Check.due("P22 open", x.meanReach(), 2.0 / 3.0);
        x.addRule(1, true, 0, 0);
        Check.due("P22 all", x.meanReach(), 2.0);
    }

    private static void changesNothing() {
        NetMerge x = Check.made("nets;host a 0 5;host b 1 5;host c 0 6;move b 7 1;move a 9 2;rule 1 deny 5 any;");
        String before = Check.shown(x);
        x.whyNot();
        x.conflict();
        x.rewrites();
        x.clashesIn(9);
        x.openIn();
        x.movedShare();
        x.meanReach();
        x.freeNumber();
        Check.due("P16 to P22 change nothing", Check.shown(x), before);
        Check.due("P16 to P22 are no operations", x.undoCount(), 0);
    }
}
