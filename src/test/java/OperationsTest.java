/** Promises 23 to 35: the operations, except for undoing them. */
public final class OperationsTest {
    public static void main(String[] args) {
        addHost();
        removeHost();
        plan();
        unplan();
        settle();
        settleChoosesHosts();
        wave();
        waveRewritesRules();
        back();
        backRewritesRules();
        backIsRefused();
        openAndClose();
        addRule();
        removeRule();
        setKeep();
        setPinned();
        Check.end("OperationsTest");
    }

    private static void addHost() {
        NetMerge x = Check.made("nets;host a 0 5;move a 6 1;");
        Check.due("P23 the number as a host", x.addHost(1, 5), 1);
        Check.due("P23 what it is", Check.shown(x), "2 0 1 0 1 3 200 250 0 1 0 | a 0 5 0 0 6 1 0|  1 5 0 0 0 0 0");
        refused("P23 held", x, () -> x.addHost(0, 5), -3);
        x.wave();
        refused("P23 kept", x, () -> x.addHost(0, 5), -3);
        x.wave();
        Check.due("P23 kept no longer", x.addHost(0, 5), 2);
        x.removeHost(2);
        x.open();
        refused("P23 held in the one net", x, () -> x.addHost(0, 5), -3);
        Check.missing("P23 office 2 is looked at first", () -> x.addHost(2, 0));
        Check.missing("P23 office -1", () -> x.addHost(-1, 1));
        Check.illegal("P23 number 0", () -> x.addHost(0, 0));
        Check.illegal("P23 number 251", () -> x.addHost(1, 251));
        NetMerge full = new NetMerge();
        for (int i = 0; i < 40; i++) {
            Check.due("P23 host " + i, full.addHost(i % 2, i == 39 ? 250 : i + 1), i);
        }
        refused("P23 a 41st", full, () -> full.addHost(0, 100), -2);
        refused("P23 a 41st with a held number", full, () -> full.addHost(0, 1), -2);
        Check.illegal("P23 exceptions are ahead of codes", () -> full.addHost(0, 0));
        reusedRow();
    }

    /** A host that comes where another one went has nothing of it. */
    private static void reusedRow() {
        NetMerge x = Check.made("nets keep 3;host a 0 5 ;host b 0 6;move b 7 1;");
        x.wave();
        x.plan(1, 20, 5);
        x.removeHost(1);
        x.addHost(1, 7);
        Check.due("P23 a new host has no past", Check.shown(x), "2 0 0 1 3 3 200 250 0 0 0 | a 0 5 0 0 0 0 0|  1 7 0 0 0 0 0");
        x.back();
        Check.due("P23 nor goes it back", x.host(1, 1), 7);
        x.wave();
        x.plan(1, 8, 2);
        x.wave();
        x.back();
        Check.due("P23 nor has it an earlier move", x.host(1, 6), 0);
    }

    private static void removeHost() {
        NetMerge x = Check.made("nets keep 2;host a 0 5;host b 1 6 pinned;host c 0 7;rule 0 allow 5 7;move a 9 1;move c 8 1;");
        x.wave();
        x.plan(2, 30, 4);
        Check.due("P24 the hosts that are left", x.removeHost(0), 2);
        Check.due("P24 those behind it get other numbers", Check.shown(x),
                "2 1 1 1 2 3 200 250 0 0 1 | b 1 6 0 1 0 0 0| c 0 8 7 0 30 4 1/ 0 1 9 8 ");
        Check.missing("P24 host 2", () -> x.removeHost(2));
        Check.missing("P24 host -1", () -> x.removeHost(-1));
        Check.due("P24 the last one", x.removeHost(1), 1);
        Check.due("P24 its plan goes too", x.size(2), 0);
        Check.due("P24 the only one", x.removeHost(0), 0);
        Check.due("P24 rules stay", x.size(1), 1);
        Check.missing("P24 no host is left", () -> x.removeHost(0));
        NetMerge full = new NetMerge();
        for (int i = 0; i < 40; i++) {
            full.addHost(0, 100 + i);
        }
        Check.due("P24 of 40", full.removeHost(39), 39);
        Check.due("P24 of 39", full.removeHost(0), 38);
        Check.due("P24 the last is still there", full.host(37, 1), 138);
    }

    private static void plan() {
        NetMerge x = Check.made("nets per 2;host a 0 5;host b 1 6 pinned;host c 0 7;host d 0 8;");
        Check.due("P25 the first plan of a wave", x.plan(0, 7, 3), 1);
        Check.due("P25 the second one", x.plan(2, 250, 3), 2);
        refused("P25 PER plans", x, () -> x.plan(3, 9, 3), -4);
        Check.due("P25 in its place", x.plan(2, 1, 3), 2);
        Check.due("P25 what is planned", x.host(2, 4) * 10 + x.host(2, 5), 13);
        Check.due("P25 to another wave", x.plan(2, 1, 9), 1);
        Check.due("P25 the wave that it left", x.plans(3), 1);
        refused("P25 pinned", x, () -> x.plan(1, 9, 3), -2);
        x.wave();
        refused("P25 a wave that was done", x, () -> x.plan(0, 9, 1), -3);
        refused("P25 pinned is ahead of done", x, () -> x.plan(1, 9, 1), -2);
        Check.due("P25 the next wave", x.plan(0, 9, 2), 1);
        Check.missing("P25 host 4 is looked at first", () -> x.plan(4, 0, 0));
        Check.missing("P25 host -1", () -> x.plan(-1, 1, 1));
        Check.illegal("P25 number 0", () -> x.plan(0, 0, 2));
        Check.illegal("P25 number 251", () -> x.plan(0, 251, 2));
        Check.illegal("P25 wave 0", () -> x.plan(0, 1, 0));
        Check.illegal("P25 wave 10", () -> x.plan(0, 1, 10));
        Check.illegal("P25 exceptions are ahead of codes", () -> x.plan(1, 0, 1));
    }

    private static void unplan() {
        NetMerge x = Check.made("nets;host a 0 5;host b 1 6;move a 9 4;");
        Check.due("P26 the wave of its plan", x.unplan(0), 4);
        Check.due("P26 it has none then", Check.shown(x), "2 0 0 0 1 3 200 250 0 0 0 | a 0 5 0 0 0 0 0| b 1 6 0 0 0 0 0");
        Check.due("P26 there was none", x.unplan(0), 0);
        Check.due("P26 it is recorded all the same", x.undoCount(), 2);
        Check.missing("P26 host 2", () -> x.unplan(2));
        Check.missing("P26 host -1", () -> x.unplan(-1));
    }

    private static void settle() {
        NetMerge x = Check.made("nets per 2 pool 10 13;host a 0 30;host b 1 30;host c 0 20;host d 1 20;host e 0 40;"
                + "host f 1 40;host g 0 11;host h 1 50;host i 0 50;move g 12 1;");
        Check.due("P27 planned as far as the pool goes", x.settle(), 2);
        Check.due("P27 in ascending order", x.host(3, 4) * 100 + x.host(1, 4), 1013);
        Check.due("P27 in waves with room", x.host(3, 5) * 100 + x.host(1, 5), 102);
        Check.due("P27 the others have no plan", x.size(2), 3);
        Check.due("P27 once more", x.settle(), 0);
        Check.due("P27 it is recorded all the same", x.undoCount(), 2);
        NetMerge y = Check.made("nets per 1;host a 0 1;host b 1 1;host c 0 2;host d 1 2;");
        for (int done = 0; done < 8; done++) {
            y.wave();
        }
        Check.due("P27 as far as the waves go", y.settle(), 1);
        Check.due("P27 the ninth wave", y.host(1, 5), 9);
        y.undo();
        y.wave();
        Check.due("P27 no wave is left", y.settle(), 0);
        Check.due("P27 without clashes", new NetMerge().settle(), 0);
        NetMerge z = Check.made("nets;host a 0 250;host b 1 250;host c 0 1;host d 1 1;");
        Check.due("P27 the least and the greatest number", z.settle(), 2);
        Check.due("P27 the greatest comes last", z.host(1, 4), 201);
    }

    private static void settleChoosesHosts() {
        NetMerge x = Check.made("nets;host a 0 1;host b 1 1 pinned;host c 0 2 pinned;host d 1 2 pinned;host e 0 3;host f 1 3;"
                + "host g 0 4;host h 1 4;move f 99 5;");
        Check.due("P27 two hosts are chosen", x.settle(), 2);
        Check.due("P27 office 0 where that of office 1 is pinned", x.host(0, 4), 200);
        Check.due("P27 none where both are pinned", x.host(2, 5) + x.host(3, 5), 0);
        Check.due("P27 one that has a plan keeps it", x.host(5, 4), 99);
        Check.due("P27 and the other one gets none", x.host(4, 5), 0);
        Check.due("P27 office 1 otherwise", x.host(7, 4), 201);
        NetMerge y = Check.made("nets keep 3;host a 0 1;host b 1 1;move b 9 1;");
        y.wave();
        Check.due("P27 one that keeps the clash is not chosen", y.settle(), 1);
        Check.due("P27 but that of office 0", y.host(0, 4) * 10 + y.host(0, 5), 2002);
        NetMerge z = Check.made("nets keep 3;host a 0 1;host b 1 1;move a 9 1;");
        z.wave();
        z.setPinned(1, true);
        Check.due("P27 neither one that keeps nor a pinned one", z.settle(), 0);
    }

    private static void wave() {
        NetMerge x = Check.made("nets keep 2;host a 0 5;host b 0 6;host c 1 5;move a 7 1;move c 9 1;move b 5 4;");
        Check.due("P28 two move", x.wave(), 2);
        Check.due("P28 how it is then", Check.shown(x),
                "3 0 1 1 2 3 200 250 0 1 2 | a 0 7 5 0 0 0 1| b 0 6 0 0 5 4 0| c 1 9 5 0 0 0 1");
        x.plan(0, 8, 2);
        refused("P28 a keeper", x, () -> x.wave(), -3);
        x.plan(1, 5, 2);
        refused("P28 a keeper is ahead of two holders", x, () -> x.wave(), -3);
        x.unplan(0);
        refused("P28 two holders", x, () -> x.wave(), -4);
        x.unplan(1);
        Check.due("P28 nobody moves", x.wave(), 0);
        x.plan(0, 8, 3);
        x.plan(1, 5, 3);
        Check.due("P28 kept until the new wave count", x.wave(), 2);
        Check.due("P28 at once", x.host(0, 1) * 100 + x.host(1, 1), 805);
        for (int done = 3; done < 9; done++) {
            x.wave();
        }
        refused("P28 9 waves", x, () -> x.wave(), -2);
        NetMerge y = Check.made("nets keep 0;host a 0 5;host b 0 6;move a 6 1;move b 5 1;");
        Check.due("P28 an exchange", y.wave(), 2);
        Check.due("P28 exchanged", y.host(0, 1) * 10 + y.host(1, 1), 65);
        NetMerge z = Check.made("nets;host a 0 5;host b 1 6;move a 6 1;");
        z.open();
        refused("P28 two holders of the one net", z, () -> z.wave(), -4);
        z.close();
        Check.due("P28 two nets", z.wave(), 1);
    }

    private static void waveRewritesRules() {
        String text = "nets keep 0;host a 0 5;host b 0 6;host c 1 5;"
                + "rule 0 allow 5 6;rule 0 allow 6 any;rule 1 deny 5 6;rule 1 deny 9 9;move a 6 1;move b 7 1;";
        NetMerge x = Check.made(text);
        x.wave();
        Check.due("P28 sides of its office, each changed once", rulesOf(x), "6 7 7 0 5 6 9 9 ");
        NetMerge y = Check.made(text);
        y.removeHost(2);
        y.open();
        y.wave();
        Check.due("P28 sides of all when open", rulesOf(y), "6 7 7 0 6 7 9 9 ");
        NetMerge z = Check.made("nets keep 3;host a 0 5;rule 0 allow 5 6;move a 6 1;");
        z.wave();
        z.addRule(0, true, 5, 5);
        z.addHost(0, 9);
        z.plan(0, 8, 4);
        z.wave();
        z.wave();
        z.wave();
        Check.due("P28 a side that names what was kept stays", rulesOf(z), "8 8 5 5 ");
    }

    private static String rulesOf(NetMerge x) {
        StringBuilder all = new StringBuilder();
        for (int rule = 0; rule < x.size(1); rule++) {
            all.append(x.rule(rule, 2)).append(' ').append(x.rule(rule, 3)).append(' ');
        }
        return all.toString();
    }

    private static void back() {
        NetMerge x = Check.made("nets keep 2 per 1;host a 0 5;host b 1 5;host c 0 30;move a 7 1;move b 8 3;");
        refused("P29 no wave was done", x, () -> x.back(), -2);
        String before = Check.shown(x);
        x.wave();
        Check.due("P29 the wave count", x.back(), 0);
        Check.due("P29 as ahead of the wave", Check.shown(x), before);
        x.wave();
        x.plan(0, 50, 4);
        x.plan(2, 9, 2);
        x.back();
        Check.due("P29 one that has a plan keeps it", Check.shown(x),
                "3 0 3 0 2 1 200 250 0 1 0 | a 0 5 0 0 50 4 0| b 1 5 0 0 8 3 0| c 0 30 0 0 9 2 0");
        x.plan(0, 7, 1);
        x.wave();
        x.setPinned(0, true);
        x.back();
        Check.due("P29 a pinned one goes back, too, but has no plan", Check.shown(x),
                "3 0 2 0 2 1 200 250 0 1 0 | a 0 5 0 1 0 0 0| b 1 5 0 0 8 3 0| c 0 30 0 0 9 2 0");
        x.wave();
        Check.due("P28 the plan of wave 2", x.wave(), 1);
        x.plan(1, 7, 4);
        x.wave();
        Check.due("P29 what it keeps behind 3", x.host(2, 2), 30);
        x.wave();
        Check.due("P29 what it keeps behind 4", x.host(2, 2), 0);
        x.back();
        Check.due("P29 it keeps again what it kept", x.host(2, 2), 30);
        Check.due("P29 the plan of wave 4 again", x.host(1, 4) * 10 + x.host(1, 5), 74);
        backFromTwo();
        backBeyondPer();
        backWithoutRemoved();
    }

    private static void backFromTwo() {
        NetMerge x = Check.made("nets keep 1;host a 0 5;move a 6 1;");
        x.wave();
        x.plan(0, 7, 2);
        x.wave();
        x.setKeep(3);
        x.back();
        Check.due("P29 what it kept ahead of wave 2", x.host(0, 1) * 100 + x.host(0, 2) * 10 + x.host(0, 6), 651);
        Check.due("P29 its plan", x.host(0, 4) * 10 + x.host(0, 5), 72);
        x.back();
        Check.due("P29 as in the beginning", x.host(0, 1) * 100 + x.host(0, 2) * 10 + x.host(0, 6), 500);
        Check.due("P29 it has the later plan still", x.host(0, 4) * 10 + x.host(0, 5), 72);
    }

    private static void backBeyondPer() {
        NetMerge x = Check.made("nets per 1;host a 0 5;host b 0 6;host c 0 7;move a 10 1;");
        x.wave();
        x.back();
        x.wave();
        x.removeHost(2);
        x.addHost(0, 8);
        x.back();
        Check.due("P29 one plan again", x.plans(1), 1);
        x.unplan(0);
        x.plan(1, 11, 1);
        x.wave();
        x.back();
        Check.due("P29 the plan of that move", x.host(1, 4), 11);
        NetMerge y = Check.made("nets per 2;host a 0 5;host b 0 6;move a 10 1;move b 11 1;");
        y.wave();
        y.back();
        Check.due("P29 two plans in that wave again", y.plans(1), 2);
        y.addHost(0, 9);
        refused("P25 a third one is beyond PER", y, () -> y.plan(2, 12, 1), -4);
    }

    private static void backWithoutRemoved() {
        NetMerge x = Check.made("nets;host a 0 5;host b 0 6;rule 0 allow 7 8;rule 0 allow 5 6;move a 7 1;move b 8 1;");
        x.wave();
        x.removeHost(0);
        x.back();
        Check.due("P29 those that are still there", Check.shown(x),
                "1 2 1 0 1 3 200 250 0 0 0 | b 0 6 0 0 8 1 0/ 0 1 7 6 / 0 1 7 6 ");
    }

    private static void backRewritesRules() {
        NetMerge x = Check.made("nets keep 0;host a 0 5;host b 0 6;host c 1 6;"
                + "rule 0 allow 5 6;rule 1 allow 5 6;rule 0 deny any 9;move a 6 1;move b 9 1;");
        x.wave();
        Check.due("P28 ahead of going back", rulesOf(x), "6 9 5 6 0 9 ");
        x.addRule(0, true, 6, 5);
        x.back();
        Check.due("P29 each side goes back once", rulesOf(x), "5 6 5 6 0 6 5 5 ");
        NetMerge y = Check.made("nets keep 0;host a 0 5;host b 1 7;rule 0 allow 5 8;rule 1 allow 8 5;move a 8 1;");
        y.wave();
        y.open();
        y.back();
        Check.due("P29 open: sides of all", rulesOf(y), "5 5 5 5 ");
        NetMerge z = Check.made("nets keep 0;host a 0 5;host b 1 7;rule 1 allow 5 8;move a 8 1;");
        z.open();
        z.wave();
        Check.due("P28 open: sides of all", rulesOf(z), "8 8 ");
        z.close();
        z.back();
        Check.due("P29 closed again: sides of its office", rulesOf(z), "8 8 ");
    }

    private static void backIsRefused() {
        NetMerge x = Check.made("nets keep 0;host a 0 5;host b 1 5;move b 6 1;");
        x.wave();
        x.open();
        refused("P29 two holders in the one net", x, () -> x.back(), -3);
        x.close();
        x.addHost(1, 5);
        refused("P29 two holders of an office", x, () -> x.back(), -3);
        x.removeHost(2);
        x.addHost(0, 6);
        Check.due("P29 in another office it may be held", x.back(), 0);
        NetMerge y = Check.made("nets;host a 0 5;move a 6 1;");
        y.wave();
        y.wave();
        y.addHost(0, 5);
        refused("P29 a number that would be kept again", y, () -> y.back(), -3);
    }

    private static void openAndClose() {
        NetMerge x = Check.made("nets;host a 0 5;host b 1 5;host c 0 6;host d 0 7;move b 8 1;");
        refused("P31 closed", x, () -> x.close(), -2);
        refused("P30 a clash", x, () -> x.open(), -3);
        x.wave();
        refused("P30 a clash with a kept number", x, () -> x.open(), -3);
        x.wave();
        Check.due("P30 the hosts", x.open(), 4);
        Check.due("P30 it is open", x.size(8), 1);
        refused("P30 open", x, () -> x.open(), -2);
        Check.due("P31 the hosts of office 0", x.close(), 3);
        Check.due("P31 it is closed", x.size(8), 0);
        refused("P31 closed again", x, () -> x.close(), -2);
    }

    private static void addRule() {
        NetMerge x = new NetMerge();
        Check.due("P32 the first one", x.addRule(1, true, 0, 250), 0);
        Check.due("P32 the second one", x.addRule(0, false, 250, 0), 1);
        Check.due("P32 what they are", Check.shown(x), "0 2 0 0 1 3 200 250 0 0 0 / 1 1 0 250 / 0 0 250 0 ");
        Check.missing("P32 office 2 is looked at first", () -> x.addRule(2, true, -1, -1));
        Check.missing("P32 office -1", () -> x.addRule(-1, true, 1, 1));
        Check.illegal("P32 first -1", () -> x.addRule(0, true, -1, 1));
        Check.illegal("P32 first 251", () -> x.addRule(0, true, 251, 1));
        Check.illegal("P32 second -1", () -> x.addRule(0, true, 1, -1));
        Check.illegal("P32 second 251", () -> x.addRule(0, true, 1, 251));
        for (int rule = 2; rule < 30; rule++) {
            Check.due("P32 rule " + rule, x.addRule(0, true, rule, rule), rule);
        }
        refused("P32 a 31st", x, () -> x.addRule(0, true, 1, 1), -2);
        Check.illegal("P32 exceptions are ahead of codes", () -> x.addRule(0, true, 1, 251));
        Check.due("P33 the last of 30", x.removeRule(29), 29);
        Check.due("P32 room again", x.addRule(0, false, 1, 2), 29);
    }

    private static void removeRule() {
        NetMerge x = Check.made("nets;rule 0 allow 1 2;rule 1 deny 3 4;rule 0 allow 5 6;");
        Check.missing("P33 rule 3", () -> x.removeRule(3));
        Check.missing("P33 rule -1", () -> x.removeRule(-1));
        Check.due("P33 two are left", x.removeRule(0), 2);
        Check.due("P33 those behind it get other numbers", Check.shown(x), "0 2 0 0 1 3 200 250 0 0 0 / 1 0 3 4 / 0 1 5 6 ");
        Check.due("P33 one is left", x.removeRule(1), 1);
        Check.due("P33 none is left", x.removeRule(0), 0);
        Check.missing("P33 nothing to remove", () -> x.removeRule(0));
    }

    private static void setKeep() {
        NetMerge x = Check.made("nets keep 1;host a 0 5;host b 1 9;move a 6 1;");
        x.wave();
        x.wave();
        Check.due("P34 KEEP before", x.setKeep(2), 1);
        Check.due("P34 also for those that moved", x.host(0, 2), 5);
        Check.due("P34 KEEP", x.size(4), 2);
        Check.due("P34 before again", x.setKeep(0), 2);
        x.addHost(0, 5);
        refused("P34 two holders", x, () -> x.setKeep(3), -2);
        Check.due("P34 still nobody keeps", x.setKeep(1), 0);
        x.removeHost(2);
        x.addHost(1, 5);
        Check.due("P34 in two nets", x.setKeep(3), 1);
        x.setKeep(0);
        x.open();
        refused("P34 in one net", x, () -> x.setKeep(2), -2);
        Check.due("P34 the same again", x.setKeep(0), 0);
        Check.illegal("P34 -1", () -> x.setKeep(-1));
        Check.illegal("P34 4", () -> x.setKeep(4));
        Check.illegal("P34 greatest", () -> x.setKeep(Integer.MAX_VALUE));
    }

    private static void setPinned() {
        NetMerge x = Check.made("nets;host a 0 5;host b 1 9;move a 6 1;");
        Check.due("P35 it was not pinned", x.setPinned(0, true), 0);
        Check.due("P35 it is, and has no plan", Check.shown(x), "2 0 0 0 1 3 200 250 0 0 0 | a 0 5 0 1 0 0 0| b 1 9 0 0 0 0 0");
        Check.due("P35 it was pinned", x.setPinned(0, true), 1);
        Check.due("P35 it was pinned until now", x.setPinned(0, false), 1);
        Check.due("P35 it is not", x.host(0, 3), 0);
        x.plan(0, 6, 1);
        Check.due("P35 let go again", x.setPinned(0, false), 0);
        Check.due("P35 that leaves the plan", x.host(0, 4), 6);
        Check.missing("P35 host 2", () -> x.setPinned(2, true));
        Check.missing("P35 host -1", () -> x.setPinned(-1, false));
    }

    /** A refused operation changes nothing and is not recorded. */
    private static void refused(String what, NetMerge x, Check.Call call, int want) {
        String before = Check.shown(x);
        int count = x.undoCount();
        Check.due(what, call.answer(), want);
        Check.due(what + ": as before", Check.shown(x), before);
        Check.due(what + ": undo count", x.undoCount(), count);
    }
}
