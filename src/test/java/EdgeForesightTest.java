/** Promises 16 to 22, sentence by sentence: the edges that the document names. */
public final class EdgeForesightTest {
    public static void main(String[] args) {
        whyNotAnswers();
        whyNotChangesNothing();
        conflictAnswers();
        conflictAllTheSame();
        conflictEnds();
        rewritesCountsSides();
        rewritesOfTheNet();
        rewritesRefused();
        clashesInEachNumber();
        clashesInRefused();
        clashesInRange();
        openInLeast();
        openInRefused();
        openInLate();
        movedShareCounts();
        meanReachCounts();
        nothingIsRecorded();
        Check.end("EdgeForesightTest");
    }

    /** P16: "what wave() would return now, but 0 instead of the moves". */
    private static void whyNotAnswers() {
        Check.due("P16 nobody moves", new NetMerge().whyNot(), 0);
        NetMerge x = Check.made("nets keep 2 per 9;host a 0 1;host b 0 2;host c 0 3;move a 11 1;move b 12 1;");
        Check.due("P16 two would move", x.whyNot(), 0);
        Check.due("P28 two move", x.wave(), 2);
        x.plan(0, 21, 2);
        Check.due("P16 -3", x.whyNot(), -3);
        x.plan(1, 3, 2);
        Check.due("P16 -3 is ahead of -4", x.whyNot(), -3);
        x.unplan(0);
        Check.due("P16 -3 for the other one", x.whyNot(), -3);
        x.unplan(1);
        x.plan(2, 11, 2);
        Check.due("P16 -4", x.whyNot(), -4);
        x.plan(2, 3, 2);
        Check.due("P16 a move to its own number", x.whyNot(), 0);
        x.unplan(2);
        Check.waves(x, 7);
        x.plan(2, 11, 9);
        Check.due("P16 the ninth one", x.whyNot(), -4);
        x.unplan(2);
        Check.due("P16 the ninth one could be done", x.whyNot(), 0);
        x.wave();
        Check.due("P16 -2", x.whyNot(), -2);
        Check.due("P28 -2", x.wave(), -2);
        x.back();
        Check.due("P16 the ninth one again", x.whyNot(), 0);
    }

    private static void whyNotChangesNothing() {
        NetMerge x = Check.made("nets;host a 0 5;host b 0 6;host c 1 5;move a 7 1;rule 0 allow 5 5;");
        String before = Check.stands(x);
        Check.due("P16 could be done", x.whyNot(), 0);
        Check.due("P16 is not done", Check.stands(x), before);
        x.plan(1, 7, 1);
        before = Check.stands(x);
        Check.due("P16 could not be done", x.whyNot(), -4);
        Check.due("P16 changes nothing then", Check.stands(x), before);
    }

    /** P17: "the smallest number that two hosts of a net would hold behind the next wave". */
    private static void conflictAnswers() {
        Check.due("P17 none without hosts", new NetMerge().conflict(), NetMerge.NONE);
        NetMerge x = Check.made("nets per 9;host a 0 1;host b 0 250;host c 0 100;host d 1 1;host e 1 250;host f 1 7;");
        Check.due("P17 none as nobody moves", x.conflict(), NetMerge.NONE);
        x.plan(2, 250, 1);
        Check.due("P17 the greatest number", x.conflict(), 250);
        x.plan(5, 250, 1);
        Check.due("P17 in both nets", x.conflict(), 250);
        x.plan(5, 1, 1);
        Check.due("P17 the smallest of two, in another net", x.conflict(), 1);
        x.unplan(5);
        x.plan(2, 1, 1);
        Check.due("P17 the least number", x.conflict(), 1);
        x.plan(2, 7, 1);
        Check.due("P17 a number of the other net", x.conflict(), NetMerge.NONE);
        x.plan(2, 1, 2);
        Check.due("P17 a move of the wave behind the next one", x.conflict(), NetMerge.NONE);
        x.wave();
        Check.due("P17 it is the next one then", x.conflict(), 1);
        NetMerge kept = Check.made("nets keep 1;host a 0 5;host b 0 6;move a 7 1;move b 5 1;");
        Check.due("P17 a number that would be kept", kept.conflict(), 5);
        kept.setKeep(0);
        Check.due("P17 a number that would not be kept", kept.conflict(), NetMerge.NONE);
        NetMerge ends = Check.made("nets keep 1;host a 0 5;host b 0 6;move a 7 1;move b 5 2;");
        ends.wave();
        Check.due("P17 a number that is kept until then", ends.conflict(), NetMerge.NONE);
        ends.setKeep(2);
        Check.due("P17 a number that is kept beyond then", ends.conflict(), 5);
        NetMerge open = Check.made("nets;host a 0 5;host b 1 6;move a 6 1;");
        Check.due("P17 closed: two nets", open.conflict(), NetMerge.NONE);
        open.open();
        Check.due("P17 open: one net", open.conflict(), 6);
    }

    /** P17: "(if it was done all the same)". */
    private static void conflictAllTheSame() {
        NetMerge x = Check.made("nets keep 3;host a 0 5;host b 0 6;move a 7 1;");
        x.wave();
        x.plan(0, 6, 2);
        Check.due("P16 a keeper would move", x.whyNot(), -3);
        Check.due("P17 what two would hold if it moved", x.conflict(), 6);
        x.plan(0, 8, 2);
        Check.due("P16 a keeper would move to a number of its own", x.whyNot(), -3);
        Check.due("P17 then no two", x.conflict(), NetMerge.NONE);
    }

    /** P17: "NONE if ... 9 waves were done". */
    private static void conflictEnds() {
        NetMerge x = Check.made("nets;host a 0 5;host b 0 6;move b 5 9;");
        Check.waves(x, 8);
        Check.due("P17 ahead of the ninth wave", x.conflict(), 5);
        x.unplan(1);
        x.wave();
        Check.due("P17 9 waves were done", x.conflict(), NetMerge.NONE);
    }

    /** P18: "how many sides of rules would name another number behind the next wave". */
    private static void rewritesCountsSides() {
        Check.due("P18 without rules", new NetMerge().rewrites(), 0);
        NetMerge x = Check.made("nets keep 0 per 9;host a 0 5;host b 0 6;"
                + "rule 0 allow 5 5;rule 0 allow 6 any;rule 0 allow any 7;rule 0 deny any any;");
        Check.due("P18 without moves", x.rewrites(), 0);
        x.plan(0, 9, 1);
        Check.due("P18 both sides of a rule", x.rewrites(), 2);
        x.plan(1, 10, 1);
        Check.due("P18 of two moves", x.rewrites(), 3);
        x.plan(1, 5, 1);
        x.plan(0, 6, 1);
        Check.due("P18 each once, as two exchange their numbers", x.rewrites(), 3);
        x.unplan(1);
        x.plan(0, 5, 1);
        Check.due("P18 a move to the same number names no other", x.rewrites(), 0);
        x.plan(0, 7, 1);
        Check.due("P18 a side that names the new number stays", x.rewrites(), 2);
        x.plan(0, 7, 2);
        Check.due("P18 a move of a later wave", x.rewrites(), 0);
        NetMerge full = new NetMerge();
        full.addHost(0, 250);
        full.plan(0, 1, 1);
        for (int i = 0; i < 30; i++) {
            full.addRule(0, true, 250, 250);
        }
        Check.due("P18 all sides of 30 rules", full.rewrites(), 60);
    }

    private static void rewritesOfTheNet() {
        NetMerge x = Check.made("nets keep 0;host a 0 5;host b 1 6;rule 0 allow 5 6;rule 1 allow 5 6;move a 7 1;");
        Check.due("P18 closed: the rules of its office", x.rewrites(), 1);
        x.open();
        Check.due("P18 open: all rules", x.rewrites(), 2);
        x.plan(1, 8, 1);
        Check.due("P18 open: of moves of both offices", x.rewrites(), 4);
    }

    /** P18: "NONE if it would be refused". */
    private static void rewritesRefused() {
        NetMerge x = Check.made("nets keep 2;host a 0 5;host b 0 6;rule 0 allow 5 6;move a 7 1;");
        x.wave();
        x.plan(0, 8, 2);
        Check.due("P18 -3", x.rewrites(), NetMerge.NONE);
        x.unplan(0);
        x.plan(1, 5, 2);
        Check.due("P18 -4", x.rewrites(), NetMerge.NONE);
        x.unplan(1);
        Check.due("P18 it would not be refused", x.rewrites(), 0);
        Check.waves(x, 8);
        Check.due("P18 -2", x.rewrites(), NetMerge.NONE);
    }

    /** P19: "the clashes that there would be behind so many waves", 0 to 9. */
    private static void clashesInEachNumber() {
        NetMerge x = Check.made("nets keep 1 per 1;host a 0 1;host b 1 1;host c 0 2;host d 1 2;host e 0 3;host f 1 4;"
                + "move b 101 1;move d 102 4;move f 3 6;move e 9 9;");
        int[] due = {2, 2, 1, 1, 1, 0, 1, 1, 1, 1};
        for (int waves = 0; waves <= 9; waves++) {
            Check.due("P19 behind " + waves, x.clashesIn(waves), due[waves]);
        }
        Check.due("P19 0 is now", x.clashesIn(0), x.size(9));
        for (int done = 1; done <= 9; done++) {
            x.wave();
            Check.due("P19 now, " + done + " waves done", x.clashesIn(0), due[done]);
            Check.due("P19 the last that can be done, " + done, x.clashesIn(9 - done), 1);
            if (done < 9) {
                Check.due("P19 one more than that, " + done, x.clashesIn(10 - done), NetMerge.NONE);
            }
        }
    }

    /** P19: "NONE if one of them would be refused". */
    private static void clashesInRefused() {
        NetMerge x = Check.made("nets keep 2;host a 0 5;host b 1 5;host c 0 6;move a 7 1;");
        x.wave();
        x.plan(0, 8, 2);
        Check.due("P19 -3: none is done", x.clashesIn(0), 1);
        Check.due("P19 -3: the first one", x.clashesIn(1), NetMerge.NONE);
        Check.due("P19 -3: the second one is not reached", x.clashesIn(2), NetMerge.NONE);
        x.plan(0, 6, 3);
        Check.due("P19 -4: the one ahead", x.clashesIn(1), 1);
        Check.due("P19 -4: the second one", x.clashesIn(2), NetMerge.NONE);
        x.plan(0, 8, 3);
        Check.due("P19 kept until then", x.clashesIn(2), 0);
        NetMerge y = new NetMerge();
        Check.waves(y, 9);
        Check.due("P19 9 waves done, no more", y.clashesIn(0), 0);
        Check.due("P19 9 waves done, one more", y.clashesIn(1), NetMerge.NONE);
    }

    private static void clashesInRange() {
        NetMerge x = Check.made("nets;host a 0 5;host b 1 5;");
        int[] wrong = {-1, 10, 11, Integer.MIN_VALUE, Integer.MAX_VALUE};
        for (int waves : wrong) {
            Check.refused("P19 waves " + waves, x, IllegalArgumentException.class, () -> x.clashesIn(waves));
        }
        Check.due("P19 waves 9", x.clashesIn(9), 1);
        Check.waves(x, 9);
        Check.illegal("P19 the exception is ahead of NONE", () -> x.clashesIn(10));
    }

    /** P20: "the least number of waves behind which there are no clashes". */
    private static void openInLeast() {
        Check.due("P20 0 without hosts", new NetMerge().openIn(), 0);
        for (int wave = 1; wave <= 9; wave++) {
            for (int keep = 0; keep <= 3; keep++) {
                NetMerge x = Check.made("nets keep " + keep + ";host a 0 5;host b 1 5;move b 6 " + wave + ";");
                int least = wave + keep;
                Check.due("P20 KEEP " + keep + ", move in " + wave, x.openIn(), least <= 9 ? least : NetMerge.NONE);
            }
        }
        NetMerge again = Check.made("nets keep 0;host a 0 5;host b 1 5;host c 1 6;move b 7 2;move c 5 4;");
        Check.due("P20 the least, though there are clashes later", again.openIn(), 2);
        again.setKeep(1);
        Check.due("P20 while the other keeps it, there are", again.openIn(), 3);
        NetMerge none = Check.made("nets;host a 0 5;host b 0 6;host c 1 7;move b 5 1;");
        Check.due("P20 0 even if the next wave would be refused", none.openIn(), 0);
    }

    /** P20: "NONE if one of them would be refused". */
    private static void openInRefused() {
        NetMerge x = Check.made("nets keep 1;host a 0 5;host b 1 5;host c 0 6;move b 7 2;");
        Check.due("P20 behind the third", x.openIn(), 3);
        x.plan(2, 5, 1);
        Check.due("P20 the first one is refused", x.openIn(), NetMerge.NONE);
        x.plan(2, 5, 3);
        Check.due("P20 the third one is refused", x.openIn(), NetMerge.NONE);
        x.plan(2, 5, 4);
        Check.due("P20 the fourth one is not needed", x.openIn(), 3);
        NetMerge y = Check.made("nets keep 3;host a 0 5;host b 1 5;host c 0 6;move b 7 1;");
        y.wave();
        y.plan(1, 8, 3);
        Check.due("P20 a keeper would move", y.openIn(), NetMerge.NONE);
        y.plan(1, 8, 4);
        Check.due("P20 it keeps no longer and moves", y.openIn(), 3);
    }

    /** P20: "or there are still clashes behind the ninth wave". */
    private static void openInLate() {
        NetMerge x = Check.made("nets;host a 0 5;host b 1 5;");
        Check.due("P20 still behind the ninth", x.openIn(), NetMerge.NONE);
        Check.waves(x, 9);
        Check.due("P20 behind the ninth", x.openIn(), NetMerge.NONE);
        x.removeHost(0);
        Check.due("P20 none behind the ninth", x.openIn(), 0);
        NetMerge y = Check.made("nets keep 0;host a 0 5;host b 1 5;move b 6 9;");
        Check.due("P20 gone with the ninth", y.openIn(), 9);
        Check.waves(y, 8);
        Check.due("P20 gone with the next, the ninth", y.openIn(), 1);
        y.setKeep(1);
        Check.due("P20 kept behind the ninth", y.openIn(), NetMerge.NONE);
    }

    /** P21: "the hosts that moved at least once (and did not go back) divided by all hosts, as floats". */
    private static void movedShareCounts() {
        Check.due("P21 0 without hosts", new NetMerge().movedShare(), 0f);
        for (int hosts = 1; hosts <= 40; hosts++) {
            NetMerge x = Check.made("nets keep 0 per 9;");
            for (int i = 0; i < hosts; i++) {
                x.addHost(i % 2, 1 + i);
            }
            Check.due("P21 none of " + hosts, x.movedShare(), 0f);
            for (int i = 0; i < hosts; i++) {
                x.plan(i, 101 + i, 1 + i / 9);
            }
            for (int wave = 1; wave <= 5; wave++) {
                x.wave();
                Check.due("P21 of " + hosts + " in " + wave, x.movedShare(), (float) Math.min(hosts, 9 * wave) / (float) hosts);
            }
        }
        NetMerge x = Check.made("nets keep 0;host a 0 5;host b 0 6;host c 0 7;move a 8 1;");
        x.wave();
        x.plan(0, 9, 2);
        x.plan(1, 6, 2);
        x.wave();
        Check.due("P21 twice counts once; to the same number counts", x.movedShare(), 2f / 3f);
        x.removeHost(2);
        Check.due("P21 all of two", x.movedShare(), 1f);
        Check.load(x, "nets ?");
        Check.due("P21 all of two, behind a text with an error", x.movedShare(), 1f);
        x.back();
        Check.due("P21 back from the second: one moved in the first", x.movedShare(), 0.5f);
        x.back();
        Check.due("P21 back from both", x.movedShare(), 0f);
        x.wave();
        x.removeHost(0);
        Check.due("P21 one that never moved", x.movedShare(), 0f);
    }

    /** P22: "what all hosts reach, added up, divided by the hosts, as doubles". */
    private static void meanReachCounts() {
        NetMerge none = new NetMerge();
        none.addRule(0, true, 0, 0);
        Check.due("P22 0 without hosts", none.meanReach(), 0.0);
        for (int hosts = 1; hosts <= 40; hosts += 3) {
            NetMerge x = new NetMerge();
            for (int i = 0; i < hosts; i++) {
                x.addHost(i % 2, 1 + i);
            }
            Check.due("P22 no rules, " + hosts + " hosts", x.meanReach(), 0.0);
            x.addRule(0, true, 0, 0);
            int of0 = (hosts + 1) / 2;
            Check.due("P22 office 0 alone, " + hosts + " hosts", x.meanReach(), (double) (of0 * (of0 - 1)) / (double) hosts);
            x.open();
            Check.due("P22 all, " + hosts + " hosts", x.meanReach(), (double) (hosts * (hosts - 1)) / (double) hosts);
            x.removeRule(0);
            x.addRule(1, true, 0, 1);
            Check.due("P22 all others reach the first, " + hosts + " hosts", x.meanReach(), (double) (hosts - 1) / (double) hosts);
        }
    }

    /** The promises 16 to 22 ask only: no operations, no changes. */
    private static void nothingIsRecorded() {
        NetMerge x = Check.made("nets keep 1;host a 0 5;host b 1 5;host c 0 6;rule 0 allow 5 6;move b 7 1;move a 9 2;");
        x.wave();
        x.format(0);
        Check.query(x, "many 1");
        String before = Check.stands(x);
        x.whyNot();
        x.conflict();
        x.rewrites();
        x.clashesIn(8);
        x.openIn();
        x.movedShare();
        x.meanReach();
        Check.due("P16 to P22 leave everything as it is", Check.stands(x), before);
        x.saveSnapshot();
        x.clashesIn(3);
        x.restoreSnapshot();
        Check.due("P41 nor do they touch the snapshot", Check.shown(x), before.substring(0, before.indexOf("undo")));
    }
}
