import java.util.NoSuchElementException;

/** Promises 23 to 27 and 30 to 35, sentence by sentence: the edges that the document names. */
public final class EdgeOperationsTest {
    private static final int[] NO_NUMBERS = {0, -1, 251, 252, 1000, Integer.MIN_VALUE, Integer.MAX_VALUE};
    private static final int[] NO_OFFICES = {-1, 2, 3, Integer.MIN_VALUE, Integer.MAX_VALUE};
    private static final int[] NO_HOSTS_OF_TWO = {-1, 2, 3, 39, 40, Integer.MIN_VALUE, Integer.MAX_VALUE};

    public static void main(String[] args) {
        addHostComes();
        addHostRange();
        addHostOfForty();
        addHostHeld();
        removeHostGoes();
        removeHostOfForty();
        planReplaces();
        planRange();
        planCodes();
        planFullWaves();
        unplan();
        settleAscending();
        settleChooses();
        settleWaves();
        settlePool();
        open();
        openRefused();
        close();
        addRuleComes();
        addRuleOfThirty();
        removeRule();
        setKeepForAll();
        setKeepRefused();
        setPinned();
        exceptionsAheadOfCodes();
        Check.end("EdgeOperationsTest");
    }

    /** P23: "a host comes, not pinned, without a name. Returns its number as a host". */
    private static void addHostComes() {
        NetMerge x = new NetMerge();
        Check.due("P23 the first, with the least number", x.addHost(0, 1), 0);
        Check.due("P23 the second, with the greatest", x.addHost(1, 250), 1);
        Check.due("P23 not pinned, no plan, no move", Check.host(x, 0), "0 1 0 0 0 0 0");
        Check.due("P23 of the other office", Check.host(x, 1), "1 250 0 0 0 0 0");
        Check.due("P23 without a name", x.name(0, 0) + x.name(1, 0), -2);
        x.setPinned(1, true);
        x.removeHost(1);
        x.addHost(1, 9);
        Check.due("P23 in the place of a pinned one", Check.host(x, 1), "1 9 0 0 0 0 0");
        NetMerge y = Check.made("nets keep 3;host named 0 5;move named 6 1;");
        y.wave();
        y.plan(0, 7, 9);
        y.removeHost(0);
        y.addHost(1, 8);
        Check.due("P23 in the place of one that moved and has a plan", Check.host(y, 0), "1 8 0 0 0 0 0");
        Check.due("P23 in the place of one with a name", y.name(0, 0), NetMerge.NONE);
        y.plan(0, 9, 2);
        y.wave();
        y.back();
        Check.due("P23 earlier moves were not its own", Check.host(y, 0), "1 8 0 0 9 2 0");
    }

    private static void addHostRange() {
        NetMerge x = Check.made("nets;host a 0 5;");
        for (int office : NO_OFFICES) {
            Check.refused("P23 office " + office, x, NoSuchElementException.class, () -> x.addHost(office, 9));
            Check.missing("P23 office " + office + " is checked first", () -> x.addHost(office, 0));
        }
        for (int number : NO_NUMBERS) {
            Check.refused("P23 number " + number, x, IllegalArgumentException.class, () -> x.addHost(0, number));
            Check.illegal("P23 number " + number + " of office 1", () -> x.addHost(1, number));
        }
    }

    /** P23: "-2 if there are 40". */
    private static void addHostOfForty() {
        NetMerge x = new NetMerge();
        for (int i = 0; i < 40; i++) {
            Check.due("P23 host " + i, x.addHost(0, 1 + i), i);
        }
        Check.refusedBriefly("P23 a 41st", x, -2, () -> x.addHost(0, 200));
        Check.refusedBriefly("P23 a 41st of the other office", x, -2, () -> x.addHost(1, 200));
        Check.refusedBriefly("P23 -2 is ahead of -3", x, -2, () -> x.addHost(0, 1));
        x.removeHost(20);
        Check.due("P23 -3 with room", x.addHost(0, 1), -3);
        Check.due("P23 the 40th again", x.addHost(0, 21), 39);
        Check.refusedBriefly("P23 full again", x, -2, () -> x.addHost(1, 200));
    }

    /** P23: "-3 if a host of its net holds the number". */
    private static void addHostHeld() {
        NetMerge x = Check.made("nets keep 1;host a 0 5;host b 1 9;move a 6 1;");
        Check.refused("P23 its number", x, -3, () -> x.addHost(0, 5));
        Check.due("P23 a planned number is not held", x.addHost(0, 6), 2);
        x.removeHost(2);
        Check.due("P23 closed: held in the other net", x.addHost(1, 5), 2);
        x.removeHost(2);
        x.wave();
        Check.refused("P23 the number that it keeps", x, -3, () -> x.addHost(0, 5));
        Check.refused("P23 its new number", x, -3, () -> x.addHost(0, 6));
        x.open();
        Check.refused("P23 open: held by the other office", x, -3, () -> x.addHost(0, 9));
        Check.refused("P23 open: kept by the other office", x, -3, () -> x.addHost(1, 5));
        Check.refused("P23 open: of its own office", x, -3, () -> x.addHost(1, 9));
        x.wave();
        Check.due("P23 open: kept no longer", x.addHost(1, 5), 2);
    }

    /** P24: "a host goes, with its plan; rules stay. Returns how many hosts are left." */
    private static void removeHostGoes() {
        NetMerge x = Check.made("nets keep 3;host a 0 5;host b 1 6 pinned;host c 0 7;host d 1 8;"
                + "rule 0 allow 5 7;rule 1 deny 6 8;move a 15 1;move c 17 2;move d 18 2;");
        x.wave();
        for (int host : new int[] {-1, 4, 5, 40, Integer.MIN_VALUE, Integer.MAX_VALUE}) {
            Check.refused("P24 host " + host, x, NoSuchElementException.class, () -> x.removeHost(host));
        }
        Check.due("P24 three are left", x.removeHost(1), 3);
        Check.due("P24 those behind it get numbers that are 1 less", Check.shown(x),
                "3 2 2 1 3 3 200 250 0 0 1 | a 0 15 5 0 0 0 1| c 0 7 0 0 17 2 0| d 1 8 0 0 18 2 0"
                + "/ 0 1 15 7 / 1 0 6 8 ");
        Check.due("P24 two are left", x.removeHost(2), 2);
        Check.due("P24 the last one goes with its plan", x.plans(2), 1);
        Check.due("P24 one is left", x.removeHost(0), 1);
        Check.due("P24 its kept number is free", x.holder(0, 5) + x.holder(0, 15), -2);
        Check.due("P24 what the other one is then", Check.host(x, 0), "0 7 0 0 17 2 0");
        Check.due("P24 none is left", x.removeHost(0), 0);
        Check.due("P24 no plan is left", x.size(2), 0);
        Check.due("P24 \"rules stay\"", Check.sides(x), "15 7 6 8");
        Check.refused("P24 nobody can go", x, NoSuchElementException.class, () -> x.removeHost(0));
        Check.refused("P24 nobody can go, the last", x, NoSuchElementException.class, () -> x.removeHost(-1));
    }

    private static void removeHostOfForty() {
        NetMerge x = Check.made("nets keep 0 per 9;");
        for (int i = 0; i < 40; i++) {
            x.addHost(0, 1 + i);
            x.plan(i, 101 + i, 1 + i / 9);
        }
        x.wave();
        Check.due("P24 39 are left", x.removeHost(0), 39);
        Check.due("P24 the moves of the others go with them", x.host(7, 6) * 10 + x.host(8, 6), 10);
        x.back();
        Check.due("P24 back to the number that it had", x.host(0, 1), 2);
        Check.due("P24 the eighth", x.host(7, 1) * 1000 + x.host(7, 4), 9109);
        Check.due("P24 the ninth has not moved", x.host(8, 1) * 1000 + x.host(8, 4), 10110);
        Check.due("P24 the last", x.host(38, 1) * 1000 + x.host(38, 4), 40140);
        Check.due("P24 38 are left", x.removeHost(38), 38);
        Check.missing("P24 the last is gone", () -> x.host(38, 0));
    }

    /** P25: "plans a move of a host, in place of a plan that it has. Returns the plans of that wave then". */
    private static void planReplaces() {
        NetMerge x = Check.made("nets per 2;host a 0 5;host b 1 6;host c 0 7;");
        Check.due("P25 the least number and wave", x.plan(0, 1, 1), 1);
        Check.due("P25 the greatest number and wave", x.plan(1, 250, 9), 1);
        Check.due("P25 what they are", Check.host(x, 0) + ", " + Check.host(x, 1), "0 5 0 0 1 1 0, 1 6 0 0 250 9 0");
        Check.due("P25 in place of it, in the same wave", x.plan(0, 2, 1), 1);
        Check.due("P25 in place of it, in another wave", x.plan(0, 3, 9), 2);
        Check.due("P25 one plan at most", x.plans(1) * 10 + x.plans(9), 2);
        Check.due("P25 in place of it, in a full wave", x.plan(0, 4, 9), 2);
        Check.due("P25 what it is then", Check.host(x, 0), "0 5 0 0 4 9 0");
        Check.due("P25 \"also one that is held\", by itself", x.plan(0, 5, 2), 1);
        Check.due("P25 \"also one that is held\", by another one", x.plan(2, 5, 2), 2);
        Check.due("P25 and one to which a plan leads", x.plan(1, 5, 3), 1);
    }

    private static void planRange() {
        NetMerge x = Check.made("nets;host a 0 5;host b 1 6;");
        for (int host : NO_HOSTS_OF_TWO) {
            Check.refused("P25 host " + host, x, NoSuchElementException.class, () -> x.plan(host, 9, 1));
            Check.missing("P25 host " + host + " is checked first", () -> x.plan(host, 0, 10));
        }
        for (int number : NO_NUMBERS) {
            Check.refused("P25 number " + number, x, IllegalArgumentException.class, () -> x.plan(1, number, 1));
        }
        for (int wave : new int[] {0, -1, 10, 11, Integer.MIN_VALUE, Integer.MAX_VALUE}) {
            Check.refused("P25 wave " + wave, x, IllegalArgumentException.class, () -> x.plan(1, 9, wave));
        }
        Check.missing("P25 no hosts", () -> new NetMerge().plan(0, 1, 1));
    }

    /** P25: "-2 if the host is pinned, -3 if the wave is not above the wave count, -4 if the wave has PER plans". */
    private static void planCodes() {
        NetMerge x = Check.made("nets per 1;host a 0 5;host b 0 6 pinned;host c 0 7;move c 8 4;");
        Check.refused("P25 pinned", x, -2, () -> x.plan(1, 9, 1));
        Check.refused("P25 -2 is ahead of -4", x, -2, () -> x.plan(1, 9, 4));
        Check.refused("P25 full", x, -4, () -> x.plan(0, 9, 4));
        for (int count = 1; count <= 3; count++) {
            int done = count;
            x.wave();
            Check.refused("P25 wave " + count + " of " + count, x, -3, () -> x.plan(0, 9, done));
            Check.refused("P25 wave 1 of " + count, x, -3, () -> x.plan(0, 9, 1));
        }
        Check.refused("P25 -2 is ahead of -3", x, -2, () -> x.plan(1, 9, 3));
        Check.due("P25 one above the wave count", x.plan(2, 9, 4), 1);
        Check.refused("P25 full, one above the wave count", x, -4, () -> x.plan(0, 9, 4));
        Check.waves(x, 5);
        Check.due("P25 the ninth behind eight", x.plan(0, 9, 9), 1);
        x.unplan(0);
        x.wave();
        Check.refused("P25 no wave is above 9", x, -3, () -> x.plan(0, 9, 9));
        x.back();
        Check.due("P25 the ninth again", x.plan(0, 9, 9), 1);
    }

    /** Section 2: "a wave has at most PER plans (PER 1 to 9)"; P25: "without that of this host". */
    private static void planFullWaves() {
        for (int per = 1; per <= 9; per++) {
            NetMerge x = Check.made("nets per " + per + ";");
            for (int i = 0; i <= per; i++) {
                x.addHost(1, 1 + i);
            }
            for (int i = 0; i < per; i++) {
                Check.due("P25 PER " + per + ", plan " + i, x.plan(i, 100, 5), i + 1);
            }
            Check.refused("P25 PER " + per + ", one more", x, -4, () -> x.plan(x.size(0) - 1, 100, 5));
            Check.due("P25 PER " + per + ", in place of one of them", x.plan(0, 101, 5), per);
            Check.due("P25 PER " + per + ", another wave", x.plan(per, 100, 6), 1);
            Check.refused("P25 PER " + per + ", from another wave", x, -4, () -> x.plan(x.size(0) - 1, 100, 5));
            x.unplan(0);
            Check.due("P25 PER " + per + ", room again", x.plan(per, 100, 5), per);
        }
    }

    /** P26: "a host has no plan then. Returns the wave of its plan; 0 if there was none." */
    private static void unplan() {
        NetMerge x = Check.made("nets;host a 0 5;host b 1 6 pinned;move a 250 9;");
        for (int host : NO_HOSTS_OF_TWO) {
            Check.refused("P26 host " + host, x, NoSuchElementException.class, () -> x.unplan(host));
        }
        Check.due("P26 the wave of its plan", x.unplan(0), 9);
        Check.due("P26 no plan then", Check.host(x, 0), "0 5 0 0 0 0 0");
        Check.due("P26 there was none", x.unplan(0), 0);
        Check.due("P26 a pinned one has none", x.unplan(1), 0);
        Check.due("P26 recorded, even if it changes nothing", x.undoCount(), 3);
        x.plan(0, 1, 1);
        Check.due("P26 the least wave", x.unplan(0), 1);
        Check.missing("P26 no hosts", () -> new NetMerge().unplan(0));
    }

    /** P27: "for each clash, in ascending order", to "the freeNumber() as it is then". */
    private static void settleAscending() {
        NetMerge none = new NetMerge();
        Check.due("P27 no clashes", none.settle(), 0);
        Check.due("P27 recorded, even if it changes nothing", none.undoCount(), 1);
        NetMerge x = Check.made("nets keep 0 per 9 pool 100 250;host a 0 250;host b 1 250;host c 0 1;host d 1 1;"
                + "host e 0 77;host f 1 77;host g 0 101;host h 1 9;move h 103 8;");
        Check.due("P27 three clashes", x.settle(), 3);
        Check.due("P27 the least first", x.host(3, 4), 100);
        Check.due("P27 then the next; 101 is held", x.host(5, 4), 102);
        Check.due("P27 the greatest last; a plan leads to 103", x.host(1, 4), 104);
        Check.due("P27 all in the first wave", x.plans(1), 3);
        Check.due("P27 no others", x.size(2), 4);
        Check.due("P27 all chosen ones have plans now", x.settle(), 0);
        x.wave();
        Check.due("P27 the clashes are gone", x.size(9), 0);
    }

    /** P27: which host is chosen. */
    private static void settleChooses() {
        chosen("that of office 1", "host a 0 5;host b 1 5;", 1);
        chosen("that of office 1, whatever the order", "host b 1 5;host a 0 5;", 0);
        chosen("without such a one that of office 0", "host a 0 5;host b 1 5 pinned;", 0);
        chosen("neither as both are pinned", "host a 0 5 pinned;host b 1 5 pinned;", -1);
        chosen("that of office 1 though that of 0 is pinned", "host a 0 5 pinned;host b 1 5;", 1);
        NetMerge has = Check.made("nets;host a 0 5;host b 1 5;move b 9 7;");
        Check.due("P27 the chosen one has a plan", has.settle(), 0);
        Check.due("P27 that plan stays", Check.host(has, 1), "1 5 0 0 9 7 0");
        Check.due("P27 the other one gets none", has.host(0, 5), 0);
        NetMerge other = Check.made("nets;host a 0 5;host b 1 5;move a 9 7;");
        Check.due("P27 a plan of the other one does not count", other.settle(), 1);
        Check.due("P27 the chosen one", Check.host(other, 1), "1 5 0 0 200 1 0");
        NetMerge keeps1 = Check.made("nets;host a 0 5;host b 1 5;move b 6 1;");
        keeps1.wave();
        Check.due("P27 \"not as one that it keeps\": office 1", keeps1.settle(), 1);
        Check.due("P27 so that of office 0", Check.host(keeps1, 0), "0 5 0 0 200 2 0");
        Check.due("P27 not the keeper", Check.host(keeps1, 1), "1 6 5 0 0 0 1");
        NetMerge keeps0 = Check.made("nets;host a 0 5;host b 1 5 pinned;move a 6 1;");
        keeps0.wave();
        Check.due("P27 \"has it so\": office 0 keeps it, 1 is pinned", keeps0.settle(), 0);
        NetMerge both = Check.made("nets;host a 0 5;host b 1 5;move a 6 1;move b 7 1;");
        both.wave();
        Check.due("P27 both keep it", both.size(9) * 10 + both.settle(), 10);
        NetMerge same = Check.made("nets keep 2;host a 0 5;host b 1 5;move b 5 1;");
        same.wave();
        Check.due("P27 it keeps it and has it as its number", same.settle(), 1);
        Check.due("P27 that one is chosen", Check.host(same, 1), "1 5 5 0 200 2 1");
    }

    private static void chosen(String what, String hosts, int want) {
        NetMerge x = Check.made("nets;" + hosts);
        Check.due("P27 " + what + ": moves", x.settle(), want < 0 ? 0 : 1);
        for (int host = 0; host < 2; host++) {
            Check.due("P27 " + what + ": host " + host, x.host(host, 4) * 10 + x.host(host, 5), host == want ? 2001 : 0);
        }
    }

    /** P27: "in the first wave above the wave count that has fewer than PER plans; once there is no such ... wave". */
    private static void settleWaves() {
        NetMerge x = Check.made("nets per 1;");
        for (int i = 0; i < 20; i++) {
            x.addHost(i % 2, 1 + i / 2);
        }
        x.plan(0, 99, 4);
        x.wave();
        Check.due("P27 seven waves have room", x.settle(), 7);
        for (int clash = 0; clash < 10; clash++) {
            int wave = clash < 2 ? clash + 2 : clash < 7 ? clash + 3 : 0;
            Check.due("P27 the wave for clash " + (clash + 1), x.host(2 * clash + 1, 5), wave);
        }
        Check.due("P27 no wave has room", x.settle(), 0);
        NetMerge end = Check.made("nets;host a 0 5;host b 1 5;");
        Check.waves(end, 8);
        Check.due("P27 the ninth wave", end.settle() * 10 + end.host(1, 5), 19);
        end.unplan(1);
        end.wave();
        Check.due("P27 no wave is above 9", end.settle(), 0);
        Check.due("P27 nothing is planned", end.size(2), 0);
    }

    /** P27: "once there is no such number ..., nothing is planned any more". */
    private static void settlePool() {
        NetMerge x = Check.made("nets pool 100 101;host a 0 1;host b 1 1;host c 0 2;host d 1 2;host e 0 3;host f 1 3;");
        Check.due("P27 two numbers are free", x.settle(), 2);
        Check.due("P27 the third clash gets none", x.host(5, 4) + x.host(5, 5), 0);
        Check.due("P27 no number is free", x.settle(), 0);
        x.addHost(0, 100);
        x.unplan(1);
        Check.due("P27 none of the pool", x.settle(), 0);
        Check.due("P27 for nobody", x.size(2), 1);
        NetMerge y = Check.made("nets pool 250 250;host a 0 1;host b 1 1;host c 1 250;");
        Check.due("P27 a pool of one that is held", y.settle(), 0);
        y.removeHost(2);
        Check.due("P27 a pool of one that is free", y.settle() * 1000 + y.host(1, 4), 1250);
    }

    /** P30: "opens the bridge. Returns how many hosts there are". */
    private static void open() {
        NetMerge x = new NetMerge();
        Check.due("P30 no hosts", x.open(), 0);
        Check.due("P30 it is open", x.size(8), 1);
        Check.refused("P30 \"-2 if it is open\"", x, -2, () -> x.open());
        NetMerge full = new NetMerge();
        for (int i = 0; i < 40; i++) {
            full.addHost(i % 3 == 0 ? 1 : 0, 1 + i);
        }
        Check.due("P30 40 hosts", full.open(), 40);
        Check.due("P31 those of office 0", full.close(), 26);
    }

    /** P30: "-3 if there are clashes". */
    private static void openRefused() {
        NetMerge x = Check.made("nets keep 1;host a 0 5;host b 1 5;move a 6 1;");
        Check.refused("P30 one clash", x, -3, () -> x.open());
        x.wave();
        Check.refused("P30 a clash with a number that is kept", x, -3, () -> x.open());
        x.wave();
        Check.due("P30 no clash", x.open(), 2);
        Check.refused("P30 open", x, -2, () -> x.open());
        NetMerge ends = Check.made("nets;host a 0 250;host b 1 250;");
        Check.refused("P30 a clash of the greatest number", ends, -3, () -> ends.open());
    }

    /** P31: "closes the bridge. Returns how many hosts the office 0 has; -2 if it is closed." */
    private static void close() {
        NetMerge x = Check.made("nets;host a 1 5;host b 1 6;host c 0 7;");
        Check.refused("P31 closed from the beginning", x, -2, () -> x.close());
        x.open();
        Check.due("P31 one of office 0", x.close(), 1);
        Check.due("P31 it is closed", x.size(8), 0);
        Check.refused("P31 closed again", x, -2, () -> x.close());
        x.removeHost(2);
        x.open();
        Check.due("P31 none of office 0", x.close(), 0);
        Check.due("P31 two nets again", x.addHost(0, 5), 2);
        NetMerge full = new NetMerge();
        for (int i = 0; i < 40; i++) {
            full.addHost(0, 1 + i);
        }
        full.open();
        Check.due("P31 all 40 of office 0", full.close(), 40);
        full.removeHost(20);
        full.addHost(1, 99);
        full.open();
        Check.due("P31 all but the last one", full.close(), 39);
    }

    /** P32: "a rule comes behind all others. Returns its number", sides 0 to 250. */
    private static void addRuleComes() {
        NetMerge x = Check.made("nets;rule 0 allow 1 2;");
        Check.due("P32 behind it", x.addRule(1, false, 0, 0), 1);
        Check.due("P32 the least and the greatest side", x.addRule(0, true, 0, 250), 2);
        Check.due("P32 and in turn", x.addRule(1, true, 250, 0), 3);
        Check.due("P32 what they are", Check.shown(x),
                "0 4 0 0 1 3 200 250 0 0 0 / 0 1 1 2 / 1 0 0 0 / 0 1 0 250 / 1 1 250 0 ");
        for (int office : NO_OFFICES) {
            Check.refused("P32 office " + office, x, NoSuchElementException.class, () -> x.addRule(office, true, 1, 1));
            Check.missing("P32 office " + office + " is checked first", () -> x.addRule(office, true, -1, 251));
        }
        for (int side : new int[] {-1, 251, 252, 1000, Integer.MIN_VALUE, Integer.MAX_VALUE}) {
            Check.refused("P32 first " + side, x, IllegalArgumentException.class, () -> x.addRule(0, true, side, 1));
            Check.refused("P32 second " + side, x, IllegalArgumentException.class, () -> x.addRule(1, false, 1, side));
        }
    }

    /** P32: "-2 if there are 30". */
    private static void addRuleOfThirty() {
        NetMerge x = new NetMerge();
        for (int i = 0; i < 30; i++) {
            Check.due("P32 rule " + i, x.addRule(i % 2, true, i, 250 - i), i);
        }
        Check.refused("P32 a 31st", x, -2, () -> x.addRule(0, true, 0, 0));
        Check.refused("P32 a 31st of the other office", x, -2, () -> x.addRule(1, false, 1, 1));
        Check.due("P33 29 are left", x.removeRule(15), 29);
        Check.due("P32 the 30th again", x.addRule(0, true, 7, 7), 29);
        Check.due("P32 those behind 15", x.rule(15, 2) * 1000 + x.rule(28, 2), 16029);
    }

    /** P33: "a rule goes; those behind it get numbers that are 1 less. Returns how many are left." */
    private static void removeRule() {
        NetMerge x = Check.made("nets;rule 0 allow 1 2;rule 1 deny 3 4;rule 0 deny 5 6;rule 1 allow 7 8;");
        for (int rule : new int[] {-1, 4, 5, 29, 30, Integer.MIN_VALUE, Integer.MAX_VALUE}) {
            Check.refused("P33 rule " + rule, x, NoSuchElementException.class, () -> x.removeRule(rule));
        }
        Check.due("P33 one in between", x.removeRule(1), 3);
        Check.due("P33 those behind it", Check.shown(x), "0 3 0 0 1 3 200 250 0 0 0 / 0 1 1 2 / 0 0 5 6 / 1 1 7 8 ");
        Check.due("P33 the last one", x.removeRule(2), 2);
        Check.due("P33 the first one", x.removeRule(0), 1);
        Check.due("P33 what is left", Check.shown(x), "0 1 0 0 1 3 200 250 0 0 0 / 0 0 5 6 ");
        Check.due("P33 the only one", x.removeRule(0), 0);
        Check.refused("P33 none is left", x, NoSuchElementException.class, () -> x.removeRule(0));
    }

    /** P34: "sets KEEP (for all hosts, also those that moved). Returns KEEP before". */
    private static void setKeepForAll() {
        NetMerge x = Check.made("nets;host a 0 5;host b 0 6;host c 0 7;move a 15 1;move b 16 2;move c 17 3;");
        Check.waves(x, 3);
        int before = 1;
        int[] keeps = {0, 1, 2, 3, 3, 0, 2, 1};
        for (int keep : keeps) {
            Check.due("P34 KEEP before " + keep, x.setKeep(keep), before);
            Check.due("P34 KEEP " + keep, x.size(4), keep);
            Check.due("P34 KEEP " + keep + ": moved in 3", x.host(2, 2), keep > 0 ? 7 : 0);
            Check.due("P34 KEEP " + keep + ": moved in 2", x.host(1, 2), keep > 1 ? 6 : 0);
            Check.due("P34 KEEP " + keep + ": moved in 1", x.host(0, 2), keep > 2 ? 5 : 0);
            before = keep;
        }
        Check.due("P34 all are recorded", x.undoCount(), 10);
        NetMerge next = Check.made("nets keep 0;host a 0 5;host b 0 6;move a 15 1;");
        next.setKeep(2);
        next.wave();
        Check.due("P34 for hosts that move later", next.host(0, 2), 5);
        for (int keep : new int[] {-1, 4, 5, Integer.MIN_VALUE, Integer.MAX_VALUE}) {
            Check.refused("P34 keep " + keep, next, IllegalArgumentException.class, () -> next.setKeep(keep));
        }
    }

    /** P34: "-2 if two hosts of a net would hold the same number then". */
    private static void setKeepRefused() {
        NetMerge x = Check.made("nets keep 0;host a 0 5;host b 1 8;move a 6 1;");
        x.wave();
        x.addHost(0, 5);
        Check.refused("P34 a number that would be kept is held", x, -2, () -> x.setKeep(1));
        Check.refused("P34 for longer", x, -2, () -> x.setKeep(3));
        Check.due("P34 as it is", x.setKeep(0), 0);
        x.wave();
        Check.due("P34 1 is over", x.setKeep(1), 0);
        Check.refused("P34 2 is not", x, -2, () -> x.setKeep(2));
        x.removeHost(2);
        x.addHost(1, 5);
        Check.due("P34 closed: held in the other net", x.setKeep(2), 1);
        x.setKeep(0);
        x.open();
        Check.refused("P34 open: held in the one net", x, -2, () -> x.setKeep(2));
        Check.due("P34 open: not kept", x.setKeep(1), 0);
        NetMerge two = Check.made("nets keep 0;host a 0 5;host b 0 6;move a 7 1;move b 5 2;");
        Check.waves(two, 2);
        Check.due("P34 5 is held by b", two.holder(0, 5), 1);
        Check.due("P34 a would keep 5 only with 2", two.setKeep(1), 0);
        Check.refused("P34 with 2", two, -2, () -> two.setKeep(2));
    }

    /** P35: "pins a host, or lets it go; a host that is pinned loses its plan. Returns 1 if it was pinned, otherwise 0." */
    private static void setPinned() {
        NetMerge x = Check.made("nets;host a 0 5;host b 1 6 pinned;move a 7 1;");
        for (int host : NO_HOSTS_OF_TWO) {
            Check.refused("P35 host " + host, x, NoSuchElementException.class, () -> x.setPinned(host, true));
            Check.refused("P35 host " + host + ", let go", x, NoSuchElementException.class, () -> x.setPinned(host, false));
        }
        Check.due("P35 let go as it is", x.setPinned(0, false), 0);
        Check.due("P35 it keeps its plan", Check.host(x, 0), "0 5 0 0 7 1 0");
        Check.due("P35 pinned", x.setPinned(0, true), 0);
        Check.due("P35 it loses its plan", Check.host(x, 0), "0 5 0 1 0 0 0");
        Check.due("P35 pinned as it is", x.setPinned(0, true), 1);
        Check.due("P35 let go", x.setPinned(0, false), 1);
        Check.due("P35 the plan does not come again", Check.host(x, 0), "0 5 0 0 0 0 0");
        Check.due("P35 the other one", Check.host(x, 1), "1 6 0 1 0 0 0");
        Check.due("P35 all are recorded", x.undoCount(), 4);
        Check.due("P25 it can be planned again", x.plan(0, 7, 1), 1);
        x.wave();
        x.setPinned(0, true);
        Check.due("P35 it keeps its old number", Check.host(x, 0), "0 7 5 1 0 0 1");
        Check.missing("P35 no hosts", () -> new NetMerge().setPinned(0, true));
    }

    /** Section 6: "error codes are checked behind the exceptions". */
    private static void exceptionsAheadOfCodes() {
        NetMerge x = new NetMerge();
        for (int i = 0; i < 40; i++) {
            x.addHost(i % 2, 1 + i);
        }
        for (int i = 0; i < 30; i++) {
            x.addRule(0, true, 0, 0);
        }
        x.setPinned(0, true);
        Check.missing("P23 no office, 40 hosts", () -> x.addHost(2, 1));
        Check.illegal("P23 no number, 40 hosts", () -> x.addHost(0, 251));
        Check.missing("P32 no office, 30 rules", () -> x.addRule(-1, true, 1, 1));
        Check.illegal("P32 no side, 30 rules", () -> x.addRule(0, true, 251, 1));
        Check.illegal("P32 no second side, 30 rules", () -> x.addRule(0, true, 1, -1));
        Check.illegal("P25 no number, pinned", () -> x.plan(0, 0, 1));
        Check.illegal("P25 no wave, pinned", () -> x.plan(0, 1, 10));
        Check.due("they change nothing", x.undoCount(), 10);
    }
}
