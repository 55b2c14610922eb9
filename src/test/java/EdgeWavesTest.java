/** Promises 28 and 29 with sections 2 and 3, sentence by sentence: waves, the way back, and the rules. */
public final class EdgeWavesTest {
    public static void main(String[] args) {
        waveCount();
        allAtOnce();
        waveOfManyMoves();
        keepersMayNotMove();
        twoHolders();
        codesInOrder();
        rulesOfTheNet();
        eachSideOnce();
        sidesOfKeptNumbers();
        backCount();
        backToNumbersAndKept();
        backPlansAgain();
        backWithRemovedHosts();
        backRewritesRules();
        backInTheNetAsItIsThen();
        backRefused();
        backBeyondSeveralMoves();
        backFromAWaveDoneAgain();
        Check.end("EdgeWavesTest");
    }

    /** Section 1: "Waves are done one after the other, 9 at most"; P28: "-2 if 9 waves were done". */
    private static void waveCount() {
        NetMerge x = Check.made("nets;host a 0 5;move a 6 9;");
        for (int done = 1; done <= 8; done++) {
            Check.due("P28 nobody moves in " + done, x.wave(), 0);
            Check.due("P28 the wave count grows by 1", x.size(3), done);
            Check.due("P28 the plan stays", x.plans(9), 1);
        }
        Check.due("P28 one moves in 9", x.wave(), 1);
        Check.due("P28 its plan is gone", x.size(2), 0);
        Check.refused("P28 a tenth", x, -2, () -> x.wave());
        Check.due("P28 recorded, even if they change little", x.undoCount(), 9);
        x.undo();
        Check.due("P28 the ninth again", x.wave(), 1);
        Check.refused("P28 a tenth again", x, -2, () -> x.wave());
    }

    /** Section 2: "all hosts that have a plan for it get their new numbers at once, and these plans are gone". */
    private static void allAtOnce() {
        NetMerge x = Check.made("nets keep 0;host a 0 1;host b 0 2;host c 0 3;host d 1 1;move a 2 1;move b 3 1;move c 1 1;");
        Check.due("P28 three in a ring", x.wave(), 3);
        Check.due("P28 at once", x.host(0, 1) * 100 + x.host(1, 1) * 10 + x.host(2, 1), 231);
        Check.due("P28 their plans are gone", x.size(2), 0);
        Check.due("P28 the other net", Check.host(x, 3), "1 1 0 0 0 0 0");
        NetMerge y = Check.made("nets keep 1;host a 0 1;host b 0 2;move a 2 1;move b 1 1;");
        Check.refused("P28 an exchange of hosts that keep", y, -4, () -> y.wave());
        NetMerge z = Check.made("nets keep 0;host a 0 1;host b 1 250;host c 0 9;move a 250 1;move b 1 1;move c 8 2;");
        Check.due("P28 hosts of both offices", z.wave(), 2);
        Check.due("P28 the least and the greatest", z.host(0, 1) * 1000 + z.host(1, 1), 250001);
        Check.due("P28 plans of other waves stay", Check.host(z, 2), "0 9 0 0 8 2 0");
    }

    private static void waveOfManyMoves() {
        NetMerge x = Check.made("nets keep 0 per 9;");
        for (int i = 0; i < 40; i++) {
            x.addHost(0, 1 + i);
            x.plan(i, 41 + i, 1 + i / 9);
        }
        int[] due = {9, 9, 9, 9, 4, 0, 0, 0, 0};
        for (int wave = 1; wave <= 9; wave++) {
            Check.due("P16 wave " + wave + " of 40 hosts", x.whyNot(), 0);
            Check.due("P28 wave " + wave + " of 40 hosts", x.wave(), due[wave - 1]);
        }
        for (int wave = 9; wave >= 1; wave--) {
            Check.due("P29 wave " + wave + " of 40 hosts", x.back(), wave - 1);
            Check.due("P10 wave " + wave + " has its plans again", x.plans(wave), due[wave - 1]);
        }
    }

    /** "refused if a host would move that keeps an old number (by the new wave count, ahead of its move)". */
    private static void keepersMayNotMove() {
        for (int keep = 0; keep <= 3; keep++) {
            for (int later = 1; later <= 4; later++) {
                NetMerge x = Check.made("nets keep " + keep + ";host a 0 5;move a 6 2;");
                Check.waves(x, 2);
                x.plan(0, 7, 2 + later);
                Check.waves(x, later - 1);
                String what = "P28 KEEP " + keep + ", " + later + " waves later";
                if (later < keep) {
                    Check.refused(what, x, -3, () -> x.wave());
                } else {
                    Check.due(what, x.wave(), 1);
                    Check.due(what + ": it moved", Check.host(x, 0), "0 7 " + (keep > 0 ? 6 : 0) + " 0 0 0 " + (2 + later));
                }
            }
        }
        NetMerge same = Check.made("nets keep 2;host a 0 5;move a 5 1;");
        same.wave();
        same.plan(0, 5, 2);
        Check.refused("P28 it keeps its own number and would move to it", same, -3, () -> same.wave());
        same.setKeep(1);
        Check.due("P28 it keeps it no longer", same.wave(), 1);
        NetMerge pinned = Check.made("nets keep 2;host a 0 5;host b 0 6;move a 7 1;");
        pinned.wave();
        pinned.plan(1, 8, 2);
        Check.due("P28 a keeper that does not move", pinned.wave(), 1);
    }

    /** "or if two hosts of a net would hold the same number behind the moves". */
    private static void twoHolders() {
        refusedFour("two moves to a number", "nets;host a 0 5;host b 0 6;move a 7 1;move b 7 1;");
        refusedFour("to the number of one that stays", "nets;host a 0 5;host b 0 6;move a 6 1;");
        refusedFour("to a number that one moves from and keeps", "nets keep 1;host a 0 5;host b 0 6;move a 6 1;move b 7 1;");
        refusedFour("in office 1", "nets;host a 1 1;host b 1 250;move a 250 1;");
        Check.due("P28 to a number that one moves from and does not keep",
                Check.made("nets keep 0;host a 0 5;host b 0 6;move a 6 1;move b 7 1;").wave(), 2);
        Check.due("P28 to a number of the other net", Check.made("nets;host a 0 5;host b 1 6;move a 6 1;").wave(), 1);
        Check.due("P28 in both nets", Check.made("nets;host a 0 5;host b 1 6;move a 7 1;move b 7 1;").wave(), 2);
        NetMerge open = Check.made("nets;host a 0 5;host b 1 6;move a 7 1;move b 7 1;");
        open.open();
        Check.refused("P28 open: two moves to a number", open, -4, () -> open.wave());
        open.plan(1, 5, 1);
        Check.refused("P28 open: a number that would be kept", open, -4, () -> open.wave());
        open.setKeep(0);
        Check.due("P28 open: a number that would not be kept", open.wave(), 2);
        NetMerge kept = Check.made("nets keep 2;host a 0 5;host b 0 6;move a 7 1;move b 5 2;");
        kept.wave();
        Check.refused("P28 a number that one keeps, of two waves", kept, -4, () -> kept.wave());
        kept.plan(1, 5, 3);
        Check.due("P28 nobody moves", kept.wave(), 0);
        Check.due("P28 behind that wave it is kept no longer", kept.wave(), 1);
    }

    private static void refusedFour(String what, String text) {
        NetMerge x = Check.made(text);
        Check.refused("P28 " + what, x, -4, () -> x.wave());
    }

    /** P28: "-2 ..., -3 ..., -4 ..." in this order. */
    private static void codesInOrder() {
        NetMerge x = Check.made("nets keep 2;host a 0 5;host b 0 6;move a 7 1;");
        x.wave();
        x.plan(0, 6, 2);
        Check.refused("P28 -3 is ahead of -4", x, -3, () -> x.wave());
        NetMerge y = Check.made("nets keep 3;host a 0 5;host b 0 6;move a 7 9;");
        Check.waves(y, 9);
        Check.refused("P28 -2", y, -2, () -> y.wave());
    }

    /** Section 3: "each side of the rules of its net (of its office, or of all if the bridge is open) that names the old number". */
    private static void rulesOfTheNet() {
        String text = "nets keep 0;host a 0 5;host b 1 6;rule 0 allow 5 5;rule 1 deny 5 5;rule 0 deny any 5;rule 1 allow 5 6;move a 9 1;";
        NetMerge closed = Check.made(text);
        closed.wave();
        Check.due("P28 closed: of its office", Check.sides(closed), "9 9 5 5 0 9 5 6");
        NetMerge open = Check.made(text);
        open.open();
        open.wave();
        Check.due("P28 open: of all", Check.sides(open), "9 9 9 9 0 9 9 6");
        Check.due("P28 office and kind stay", open.rule(1, 0) * 10 + open.rule(1, 1), 10);
        NetMerge same = Check.made("nets;host a 0 5;rule 0 allow 5 5;move a 5 1;");
        same.wave();
        Check.due("P28 to the same number", Check.sides(same), "5 5");
        NetMerge ends = Check.made("nets;host a 0 1;host b 0 249;rule 0 allow 1 249;move a 250 1;move b 2 1;");
        ends.wave();
        Check.due("P28 the least and the greatest numbers", Check.sides(ends), "250 2");
        NetMerge full = new NetMerge();
        full.addHost(1, 5);
        full.plan(0, 6, 1);
        for (int i = 0; i < 30; i++) {
            full.addRule(1, true, i == 29 ? 5 : 7, i == 0 ? 5 : 0);
        }
        full.wave();
        Check.due("P28 the first and the last of 30 rules", full.rule(0, 3) * 10 + full.rule(29, 2), 66);
    }

    /** "With several moves at once, each side is changed by one of them at most". */
    private static void eachSideOnce() {
        NetMerge x = Check.made("nets keep 0;host a 0 1;host b 0 2;host c 0 3;"
                + "rule 0 allow 1 2;rule 0 allow 3 1;rule 0 deny 2 any;move a 2 1;move b 3 1;move c 1 1;");
        x.wave();
        Check.due("P28 in a ring", Check.sides(x), "2 3 1 2 3 0");
        x.back();
        Check.due("P29 and back", Check.sides(x), "1 2 3 1 2 0");
        NetMerge chain = Check.made("nets keep 0;host a 0 3;host b 0 2;host c 0 1;"
                + "rule 0 allow 1 2;rule 0 allow 3 4;move a 4 1;move b 3 1;move c 2 1;");
        chain.wave();
        Check.due("P28 in a chain", Check.sides(chain), "2 3 4 4");
        chain.back();
        Check.due("P29 back in a chain; a side that named the new number goes back, too", Check.sides(chain), "1 2 3 3");
    }

    /** Section 3: the old number of a move is the number, not one that is kept. */
    private static void sidesOfKeptNumbers() {
        NetMerge x = Check.made("nets keep 2;host a 0 5;host b 0 8;rule 0 allow 5 8;move a 6 1;");
        x.wave();
        x.addRule(0, true, 5, 6);
        x.plan(1, 9, 2);
        x.wave();
        Check.due("P28 a side that names a kept number stays", Check.sides(x), "6 9 5 6");
        x.plan(0, 7, 3);
        x.wave();
        Check.due("P28 as it moves again, too", Check.sides(x), "7 9 5 7");
    }

    /** P29: "Returns the wave count then; -2 if it is 0". */
    private static void backCount() {
        NetMerge x = new NetMerge();
        Check.refused("P29 no wave was done", x, -2, () -> x.back());
        Check.waves(x, 9);
        for (int left = 8; left >= 0; left--) {
            Check.due("P29 the wave count then", x.back(), left);
            Check.due("P5 the wave count then", x.size(3), left);
        }
        Check.refused("P29 back from all", x, -2, () -> x.back());
        NetMerge y = Check.made("nets;host a 0 5;");
        Check.refused("P29 behind load", y, -2, () -> y.back());
    }

    /** "the hosts that moved in it ... are as they were ahead of it, in their numbers and in what they keep". */
    private static void backToNumbersAndKept() {
        NetMerge x = Check.made("nets keep 2;host a 0 5;host b 1 6;host c 0 7;move a 15 1;move b 16 3;");
        Check.waves(x, 2);
        String behindTwo = Check.shown(x);
        x.wave();
        Check.due("P28 a keeps no longer, b does", Check.host(x, 0) + ", " + Check.host(x, 1), "0 15 0 0 0 0 1, 1 16 6 0 0 0 3");
        Check.due("P29 back from 3", x.back(), 2);
        Check.due("P29 as ahead of it; a keeps again", Check.shown(x), behindTwo);
        x.back();
        Check.due("P29 back from 2, in which nobody moved", Check.host(x, 0), "0 15 5 0 0 0 1");
        x.back();
        Check.due("P29 back from 1", Check.host(x, 0) + ", " + Check.host(x, 1), "0 5 0 0 15 1 0, 1 6 0 0 16 3 0");
        NetMerge twice = Check.made("nets keep 1;host a 0 5;move a 6 1;");
        twice.wave();
        twice.plan(0, 7, 2);
        twice.wave();
        Check.due("P28 it keeps what it had ahead of 2", Check.host(twice, 0), "0 7 6 0 0 0 2");
        twice.back();
        Check.due("P29 it keeps what it had ahead of 1", Check.host(twice, 0), "0 6 5 0 7 2 1");
        NetMerge same = Check.made("nets keep 1;host a 0 5;move a 5 1;");
        same.wave();
        same.back();
        Check.due("P29 from a move to the same number", Check.host(same, 0), "0 5 0 0 5 1 0");
    }

    /** "those of them that have no plan and are not pinned have the plan of that move again (to the same number, in that wave, whatever PER is)". */
    private static void backPlansAgain() {
        NetMerge x = Check.made("nets per 3;host a 0 5;host b 0 6;host c 0 7;host d 0 8;move a 15 1;move b 16 1;move c 17 1;move d 18 2;");
        x.wave();
        x.plan(1, 26, 2);
        x.setPinned(2, true);
        x.back();
        Check.due("P29 it has the plan again", Check.host(x, 0), "0 5 0 0 15 1 0");
        Check.due("P29 it has another plan", Check.host(x, 1), "0 6 0 0 26 2 0");
        Check.due("P29 it is pinned", Check.host(x, 2), "0 7 0 1 0 0 0");
        Check.due("P29 it did not move", Check.host(x, 3), "0 8 0 0 18 2 0");
        Check.due("P10 plans then", x.plans(1) * 10 + x.plans(2), 12);
        NetMerge let = Check.made("nets;host a 0 5;move a 15 1;");
        let.wave();
        let.setPinned(0, true);
        let.setPinned(0, false);
        let.back();
        Check.due("P29 it was pinned in between", Check.host(let, 0), "0 5 0 0 15 1 0");
        NetMerge full = Check.made("nets per 9;");
        for (int i = 0; i < 9; i++) {
            full.addHost(0, 1 + i);
            full.plan(i, 101 + i, 1);
        }
        full.wave();
        full.back();
        Check.due("P29 PER plans again", full.plans(1), 9);
        Check.due("P29 to the same numbers", full.host(0, 4) * 1000 + full.host(8, 4), 101109);
        full.addHost(0, 50);
        Check.due("P25 no room for another one", full.plan(9, 51, 1), -4);
        Check.due("P28 it can be done again", full.wave(), 9);
    }

    /** "as far as they are still there"; "(the moves of hosts that were removed change no sides)". */
    private static void backWithRemovedHosts() {
        NetMerge x = Check.made("nets keep 0;host a 0 5;host b 0 6;host c 0 7;rule 0 allow 5 6;rule 0 deny 7 5;"
                + "move a 15 1;move b 16 1;move c 17 1;");
        x.wave();
        x.removeHost(1);
        Check.due("P29 without b", x.back(), 0);
        Check.due("P29 those that are still there", Check.shown(x),
                "2 2 2 0 0 3 200 250 0 0 0 | a 0 5 0 0 15 1 0| c 0 7 0 0 17 1 0/ 0 1 5 16 / 0 0 7 5 ");
        NetMerge taken = Check.made("nets keep 0;host a 0 5;rule 0 allow 5 9;move a 15 1;");
        taken.wave();
        taken.removeHost(0);
        taken.addHost(0, 15);
        Check.due("P29 another one has its new number", taken.back(), 0);
        Check.due("P29 that one did not move", Check.host(taken, 0), "0 15 0 0 0 0 0");
        Check.due("P29 nor do the rules go back", Check.sides(taken), "15 9");
        NetMerge none = Check.made("nets keep 0;host a 0 5;move a 6 1;");
        none.wave();
        none.removeHost(0);
        Check.due("P29 without any host", none.back(), 0);
        NetMerge restored = Check.made("nets keep 0;host a 0 5;move a 6 1;");
        restored.wave();
        restored.removeHost(0);
        restored.undo();
        restored.back();
        Check.due("P29 one that is there again by undo", Check.host(restored, 0), "0 5 0 0 6 1 0");
    }

    /** Section 3: "going back, each side of the rules ... that names the new number names the old one". */
    private static void backRewritesRules() {
        NetMerge x = Check.made("nets keep 0;host a 0 5;host b 1 6;rule 0 allow 5 any;rule 1 allow 5 6;rule 0 deny 9 5;move a 9 1;move b 5 1;");
        x.wave();
        Check.due("P28 forward", Check.sides(x), "9 0 5 5 9 9");
        x.addRule(0, true, 5, 9);
        x.addRule(1, true, 9, 5);
        x.removeRule(0);
        x.back();
        Check.due("P29 rules that came in between go back, too", Check.sides(x), "6 6 5 5 5 5 9 6");
        NetMerge old = Check.made("nets keep 3;host a 0 5;rule 0 allow 5 5;move a 6 1;");
        old.wave();
        old.addRule(0, true, 5, 6);
        old.back();
        Check.due("P29 sides that name the old number stay", Check.sides(old), "5 5 5 5");
        NetMerge stay = Check.made("nets keep 0;host a 0 5;host b 0 7;rule 0 allow 5 7;move a 6 1;move b 8 2;");
        Check.waves(stay, 2);
        stay.back();
        Check.due("P29 only moves of the latest wave", Check.sides(stay), "6 7");
        stay.back();
        Check.due("P29 then those of the one ahead", Check.sides(stay), "5 7");
    }

    /** Section 3: "of its net as it is then". */
    private static void backInTheNetAsItIsThen() {
        NetMerge opened = Check.made("nets keep 0;host a 0 5;host b 1 7;rule 0 allow 5 5;rule 1 allow 6 5;move a 6 1;");
        opened.wave();
        Check.due("P28 closed: of its office", Check.sides(opened), "6 6 6 5");
        opened.open();
        opened.back();
        Check.due("P29 opened since then: of all", Check.sides(opened), "5 5 5 5");
        NetMerge closed = Check.made("nets keep 0;host a 0 5;host b 1 7;rule 0 allow 5 5;rule 1 allow 6 5;move a 6 1;");
        closed.open();
        closed.wave();
        Check.due("P28 open: of all", Check.sides(closed), "6 6 6 6");
        closed.close();
        closed.back();
        Check.due("P29 closed since then: of its office", Check.sides(closed), "5 5 6 6");
    }

    /** P29: "-3 if two hosts of a net would hold the same number". */
    private static void backRefused() {
        NetMerge x = Check.made("nets keep 0;host a 0 5;host b 1 8;rule 0 allow 5 5;move a 6 1;");
        x.wave();
        x.addHost(0, 5);
        Check.refused("P29 its old number is held", x, -3, () -> x.back());
        x.removeHost(2);
        x.addHost(1, 5);
        x.addHost(0, 9);
        x.removeHost(3);
        Check.due("P29 closed: it is held in the other net", x.back(), 0);
        NetMerge open = Check.made("nets keep 0;host a 0 5;host b 1 8;move a 6 1;");
        open.wave();
        open.addHost(1, 5);
        open.open();
        Check.refused("P29 open: it is held in the one net", open, -3, () -> open.back());
        open.close();
        Check.due("P29 closed again", open.back(), 0);
        NetMerge kept = Check.made("nets keep 1;host a 0 5;move a 6 1;");
        Check.waves(kept, 2);
        kept.addHost(0, 5);
        Check.refused("P29 a number that would be kept again", kept, -3, () -> kept.back());
        kept.setKeep(0);
        Check.due("P29 a number that would not", kept.back(), 1);
        Check.refused("P29 but going back once more", kept, -3, () -> kept.back());
        NetMerge last = Check.made("nets keep 0;host a 0 5;move a 6 1;");
        last.wave();
        last.plan(0, 7, 2);
        last.wave();
        last.addHost(0, 6);
        Check.refused("P29 from 2 of two moves", last, -3, () -> last.back());
        last.undo();
        Check.due("P29 without that one", last.back(), 1);
    }

    private static void backBeyondSeveralMoves() {
        NetMerge x = Check.made("nets keep 0;host a 0 5;rule 0 allow 5 9;");
        for (int wave = 1; wave <= 9; wave++) {
            x.plan(0, 100 + wave, wave);
            x.wave();
        }
        Check.due("P28 moved nine times", Check.host(x, 0), "0 109 0 0 0 0 9");
        for (int wave = 9; wave >= 1; wave--) {
            x.unplan(0);
            x.back();
            int number = wave > 1 ? 99 + wave : 5;
            Check.due("P29 back from " + wave, Check.host(x, 0), "0 " + number + " 0 0 " + (100 + wave) + " " + wave + " " + (wave - 1));
            Check.due("P29 the rule behind " + wave, Check.sides(x), number + " 9");
        }
    }

    /** P6: "a wave from which it went back does not count", also when that wave is done again without it. */
    private static void backFromAWaveDoneAgain() {
        NetMerge x = Check.made("nets keep 3;host a 0 5;host b 0 30;move a 6 2;");
        Check.waves(x, 2);
        x.back();
        Check.due("P29 back from 2", Check.host(x, 0), "0 5 0 0 6 2 0");
        x.plan(0, 7, 3);
        x.wave();
        Check.due("P28 2 without it", Check.host(x, 0), "0 5 0 0 7 3 0");
        x.wave();
        Check.due("P28 it moved in 3 only", Check.host(x, 0), "0 7 5 0 0 0 3");
        x.back();
        Check.due("P29 back from 3: it never moved", Check.host(x, 0), "0 5 0 0 7 3 0");
        Check.due("P21 it never moved", x.movedShare(), 0f);
        x.back();
        Check.due("P29 back from 2: nor then", Check.host(x, 0), "0 5 0 0 7 3 0");
        x.plan(0, 9, 2);
        x.wave();
        Check.due("P28 2 to another number", Check.host(x, 0), "0 9 5 0 0 0 2");
        x.back();
        Check.due("P29 back from it", Check.host(x, 0), "0 5 0 0 9 2 0");
    }
}
