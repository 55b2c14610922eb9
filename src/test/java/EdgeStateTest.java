/** Promises 5 to 15 with sections 1 and 3, sentence by sentence: the edges that the document names. */
public final class EdgeStateTest {
    private static final int[] NO_NUMBERS = {0, -1, 251, 252, 1000, 4097, Integer.MIN_VALUE, Integer.MAX_VALUE};
    private static final int[] NO_OFFICES = {-1, 2, 3, 256, Integer.MIN_VALUE, Integer.MAX_VALUE};

    public static void main(String[] args) {
        sizeRange();
        sizeLeast();
        sizeGreatest();
        clashesOfKeptNumbers();
        hostNumbers();
        hostRange();
        keptHowLong();
        names();
        holderOfBothNumbers();
        holderRange();
        clashOrder();
        clashRange();
        plansRange();
        ruleNumbers();
        ruleRange();
        sidesThatMatch();
        theFirstRuleOfTheNet();
        decidesRange();
        reachCounts();
        reachByKeptNumbers();
        reachRange();
        freeNumbers();
        Check.end("EdgeStateTest");
    }

    /** P5: "Throws NoSuchElementException if what is out of range". */
    private static void sizeRange() {
        NetMerge x = Check.made("nets;host a 0 5;host b 1 5;");
        int[] wrong = {-1, 11, 12, -11, 1000, Integer.MIN_VALUE, Integer.MAX_VALUE};
        for (int what : wrong) {
            Check.refused("P5 what " + what, x, java.util.NoSuchElementException.class, () -> x.size(what));
        }
        Check.due("P5 what 0 is the least", x.size(0), 2);
        Check.due("P5 what 10 is the greatest", x.size(10), 0);
    }

    private static void sizeLeast() {
        NetMerge x = Check.made("nets keep 0 per 1 pool 1 1;");
        int[] due = {0, 0, 0, 0, 0, 1, 1, 1, 0, 0, 0};
        for (int what = 0; what <= 10; what++) {
            Check.due("P5 what " + what + " with nothing at all", x.size(what), due[what]);
        }
    }

    private static void sizeGreatest() {
        NetMerge x = Check.made("nets keep 3 per 9 pool 250 250;");
        for (int i = 0; i < 40; i++) {
            x.addHost(i % 2, 1 + i / 2);
        }
        for (int i = 0; i < 30; i++) {
            x.addRule(i % 2, true, 0, 0);
        }
        for (int i = 0; i < 40; i++) {
            x.plan(i, 101 + i, 5 + i / 9);
        }
        int[] due = {40, 30, 40, 0, 3, 9, 250, 250, 0, 20, 0};
        for (int what = 0; what <= 10; what++) {
            Check.due("P5 what " + what + " with all there may be", x.size(what), due[what]);
        }
        Check.waves(x, 7);
        Check.due("P5 hosts that keep: 9 of each of three waves", x.size(10), 27);
        Check.due("P5 plans that are left", x.size(2), 13);
        Check.due("P5 clashes with numbers that are kept", x.size(9), 20);
        Check.waves(x, 1);
        Check.due("P5 those of the first one keep no longer", x.size(10), 27);
        Check.due("P5 the clashes of 9 hosts are gone with them", x.size(9), 15);
        Check.waves(x, 1);
        Check.due("P5 the greatest wave count", x.size(3), 9);
        Check.due("P5 no plans are left", x.size(2), 0);
        NetMerge y = Check.made("nets;host a 0 1;host b 1 2;");
        y.open();
        Check.due("P5 what 8 open", y.size(8), 1);
        y.close();
        Check.due("P5 what 8 closed", y.size(8), 0);
    }

    /** Section 1: "A clash is a number that hosts of both offices hold", as their number or as one they keep. */
    private static void clashesOfKeptNumbers() {
        NetMerge own = Check.made("nets;host a 0 5;host b 1 5;host c 0 6;");
        Check.due("P5 two numbers", own.size(9) * 1000 + own.clash(0), 1005);
        NetMerge kept = Check.made("nets;host a 0 5;host b 1 6;move a 7 1;move b 5 1;");
        Check.due("P5 none yet", kept.size(9), 0);
        kept.wave();
        Check.due("P5 a kept one and a number", kept.size(9) * 1000 + kept.clash(0), 1005);
        kept.wave();
        Check.due("P5 no longer kept", kept.size(9), 0);
        NetMerge both = Check.made("nets;host a 0 5;host b 1 5;move a 7 1;move b 8 1;");
        both.wave();
        Check.due("P5 two kept ones", both.size(9) * 1000 + both.clash(0), 1005);
        both.wave();
        Check.due("P5 neither is kept", both.size(9), 0);
        NetMerge pair = Check.made("nets;host a 0 5;host b 1 5;move a 7 1;move b 7 1;");
        pair.wave();
        Check.due("P5 both numbers of two hosts", pair.size(9) * 1000000 + pair.clash(0) * 1000 + pair.clash(1), 2005007);
        NetMerge planned = Check.made("nets;host a 0 5;host b 1 6;move a 6 9;");
        Check.due("P5 a plan makes no clash", planned.size(9), 0);
        NetMerge one = Check.made("nets;host a 0 5;host b 0 6;move a 7 1;");
        one.wave();
        Check.due("P5 hosts of one office make none", one.size(9), 0);
        NetMerge ends = Check.made("nets;host a 0 1;host b 1 1;host c 1 250;host d 0 250;");
        Check.due("P5 the least and the greatest number", ends.size(9), 2);
        Check.due("P9 the least one", ends.clash(0), 1);
        Check.due("P9 the greatest one", ends.clash(1), 250);
    }

    /** P6: each number of a host, and 0 where there is none. */
    private static void hostNumbers() {
        NetMerge x = Check.made("nets keep 1;host a 1 250 pinned;host b 0 1;move b 250 9;");
        Check.due("P6 a pinned one", Check.host(x, 0), "1 250 0 1 0 0 0");
        Check.due("P6 one with a plan", Check.host(x, 1), "0 1 0 0 250 9 0");
        Check.waves(x, 8);
        Check.due("P6 the plan stays until its wave", Check.host(x, 1), "0 1 0 0 250 9 0");
        x.wave();
        Check.due("P6 moved in the ninth", Check.host(x, 1), "0 250 1 0 0 0 9");
        x.back();
        Check.due("P6 a wave from which it went back does not count", Check.host(x, 1), "0 1 0 0 250 9 0");
        NetMerge y = Check.made("nets keep 0;host a 0 5;move a 6 1;");
        y.wave();
        y.plan(0, 7, 3);
        Check.waves(y, 2);
        Check.due("P6 moved in 1 and 3", Check.host(y, 0), "0 7 0 0 0 0 3");
        y.wave();
        y.back();
        Check.due("P6 a wave in which it did not move", Check.host(y, 0), "0 7 0 0 0 0 3");
        y.back();
        Check.due("P6 back from 3: most recently in 1", Check.host(y, 0), "0 6 0 0 7 3 1");
        y.back();
        Check.due("P6 back from 2: still in 1", Check.host(y, 0), "0 6 0 0 7 3 1");
        y.back();
        Check.due("P6 back from 1: in none", Check.host(y, 0), "0 5 0 0 7 3 0");
    }

    private static void hostRange() {
        NetMerge x = Check.made("nets;host a 0 5;host b 1 6;");
        int[] wrongHosts = {-1, 2, 3, 39, 40, Integer.MIN_VALUE, Integer.MAX_VALUE};
        for (int host : wrongHosts) {
            Check.refused("P6 host " + host, x, java.util.NoSuchElementException.class, () -> x.host(host, 0));
        }
        int[] wrongWhats = {-1, 7, 8, Integer.MIN_VALUE, Integer.MAX_VALUE};
        for (int what : wrongWhats) {
            Check.refused("P6 what " + what, x, java.util.NoSuchElementException.class, () -> x.host(1, what));
        }
        Check.due("P6 the last host", x.host(1, 1), 6);
        x.removeHost(0);
        Check.missing("P6 one that went", () -> x.host(1, 0));
        Check.due("P6 the one that is left", x.host(0, 1), 6);
        Check.missing("P6 none", () -> new NetMerge().host(0, 1));
    }

    /** Section 1: kept "as long as the wave count is less than that wave plus KEEP (KEEP 0 to 3)". */
    private static void keptHowLong() {
        for (int keep = 0; keep <= 3; keep++) {
            for (int wave = 1; wave <= 9; wave++) {
                NetMerge x = Check.made("nets keep " + keep + ";host a 0 5;move a 6 " + wave + ";");
                for (int count = 0; count <= 9; count++) {
                    boolean keeps = count >= wave && count < wave + keep;
                    String what = "P6 KEEP " + keep + ", moved in " + wave + ", wave count " + count;
                    Check.due(what, x.host(0, 2), keeps ? 5 : 0);
                    Check.due(what + ": P8", x.holder(0, 5), keeps || count < wave ? 0 : -1);
                    Check.due(what + ": P5", x.size(10), keeps ? 1 : 0);
                    x.wave();
                }
            }
        }
        NetMerge same = Check.made("nets keep 2;host a 0 5;move a 5 1;");
        same.wave();
        Check.due("P6 \"also if both are the same\"", Check.host(same, 0), "0 5 5 0 0 0 1");
        Check.due("P5 \"also if both are the same\"", same.size(10), 1);
        same.wave();
        Check.due("P6 the same, still", same.host(0, 2), 5);
        same.wave();
        Check.due("P6 the same, no longer", same.host(0, 2), 0);
        Check.due("P5 the same, no longer", same.size(10), 0);
        Check.due("P8 its number is held all the same", same.holder(0, 5), 0);
    }

    /** P7: "a letter of the name as a byte, from 0; NONE if there are not so many, or index is negative". */
    private static void names() {
        for (int length = 1; length <= 8; length++) {
            String name = "zyxwvuts".substring(8 - length);
            NetMerge x = Check.made("nets;host " + name + " 0 5;host a 1 5;");
            for (int i = 0; i < 12; i++) {
                Check.due("P7 letter " + i + " of " + length, x.name(0, i), i < length ? (int) name.charAt(i) : -1);
            }
            Check.due("P7 another host", x.name(1, 0) * 10 + x.name(1, 1), 969);
            x.removeHost(0);
            Check.due("P7 names go with their hosts", x.name(0, 0) * 10 + x.name(0, 1), 969);
        }
        NetMerge x = Check.made("nets;host abcdefgh 0 5;");
        int[] none = {-1, -8, 8, 9, 32, 64, Integer.MIN_VALUE, Integer.MAX_VALUE};
        for (int index : none) {
            Check.due("P7 index " + index, x.name(0, index), NetMerge.NONE);
        }
        x.addHost(0, 6);
        for (int index = -1; index <= 8; index++) {
            Check.due("P7 \"The names of hosts of addHost are empty\": " + index, x.name(1, index), NetMerge.NONE);
        }
        x.removeHost(0);
        Check.due("P7 empty, also in another place", x.name(0, 0), NetMerge.NONE);
        int[] wrong = {-1, 1, 40, Integer.MIN_VALUE, Integer.MAX_VALUE};
        for (int host : wrong) {
            Check.refused("P7 host " + host, x, java.util.NoSuchElementException.class, () -> x.name(host, 0));
            Check.missing("P7 host " + host + " with a negative index", () -> x.name(host, -1));
        }
    }

    /** Section 1: "A host holds its number and one that it keeps." */
    private static void holderOfBothNumbers() {
        NetMerge x = Check.made("nets keep 2;host a 0 1;host b 1 1;host c 0 250;host d 1 250;move b 9 1;");
        Check.due("P8 the least number of 0", x.holder(0, 1), 0);
        Check.due("P8 the least number of 1", x.holder(1, 1), 1);
        Check.due("P8 the greatest number of 0", x.holder(0, 250), 2);
        Check.due("P8 the greatest number of 1", x.holder(1, 250), 3);
        Check.due("P8 a planned number is not held", x.holder(1, 9), NetMerge.NONE);
        x.wave();
        Check.due("P8 its number", x.holder(1, 9), 1);
        Check.due("P8 and the one that it keeps", x.holder(1, 1), 1);
        Check.due("P8 not in the other office", x.holder(0, 9), NetMerge.NONE);
        x.removeHost(0);
        Check.due("P8 by the numbers as hosts that they have then", x.holder(1, 1), 0);
        Check.due("P8 nobody of 0", x.holder(0, 1), NetMerge.NONE);
        NetMerge y = Check.made("nets;host a 0 5;host b 1 6;");
        y.open();
        Check.due("P8 open: the office is looked at", y.holder(0, 6) + y.holder(1, 5), -2);
        Check.due("P8 open: each in its own", y.holder(0, 5) * 10 + y.holder(1, 6), 1);
    }

    private static void holderRange() {
        NetMerge x = Check.made("nets;host a 0 5;host b 1 6;");
        for (int office : NO_OFFICES) {
            Check.refused("P8 office " + office, x, java.util.NoSuchElementException.class, () -> x.holder(office, 5));
            Check.missing("P8 office " + office + " is checked first", () -> x.holder(office, 0));
        }
        for (int number : NO_NUMBERS) {
            Check.refused("P8 number " + number, x, IllegalArgumentException.class, () -> x.holder(0, number));
            Check.illegal("P8 number " + number + " in 1", () -> x.holder(1, number));
        }
    }

    /** P9: "Returns a clash, from 0 in ascending order". */
    private static void clashOrder() {
        NetMerge x = new NetMerge();
        for (int i = 0; i < 20; i++) {
            x.addHost(0, 250 - 13 * i);
            x.addHost(1, 3 + 13 * i);
        }
        Check.due("P5 twenty clashes", x.size(9), 20);
        for (int i = 0; i < 20; i++) {
            Check.due("P9 clash " + i, x.clash(i), 3 + 13 * i);
        }
        Check.missing("P9 clash 20", () -> x.clash(20));
    }

    private static void clashRange() {
        NetMerge x = Check.made("nets;host a 0 5;host b 1 5;host c 1 6;");
        int[] wrong = {-1, 1, 2, 250, Integer.MIN_VALUE, Integer.MAX_VALUE};
        for (int index : wrong) {
            Check.refused("P9 index " + index, x, java.util.NoSuchElementException.class, () -> x.clash(index));
        }
        Check.due("P9 index 0", x.clash(0), 5);
        x.removeHost(1);
        Check.missing("P9 there is none any more", () -> x.clash(0));
    }

    /** P10: "how many plans a wave has", wave 1 to 9. */
    private static void plansRange() {
        NetMerge x = Check.made("nets per 9;");
        for (int i = 0; i < 19; i++) {
            x.addHost(i % 2, 1 + i);
        }
        for (int i = 0; i < 19; i++) {
            x.plan(i, 100, i < 9 ? 1 : i < 18 ? 9 : 5);
        }
        int[] due = {9, 0, 0, 0, 1, 0, 0, 0, 9};
        for (int wave = 1; wave <= 9; wave++) {
            Check.due("P10 wave " + wave, x.plans(wave), due[wave - 1]);
        }
        int[] wrong = {0, -1, 10, 11, Integer.MIN_VALUE, Integer.MAX_VALUE};
        for (int wave : wrong) {
            Check.refused("P10 wave " + wave, x, IllegalArgumentException.class, () -> x.plans(wave));
        }
        x.unplan(0);
        x.removeHost(18);
        x.setPinned(17, true);
        Check.due("P10 one less of 1 and of 5 and of 9", x.plans(1) * 100 + x.plans(5) * 10 + x.plans(9), 808);
    }

    /** P11: the numbers of a rule, the first and the last of 30. */
    private static void ruleNumbers() {
        NetMerge x = new NetMerge();
        for (int i = 0; i < 30; i++) {
            x.addRule(i % 2, i % 3 == 0, i == 0 ? 0 : 251 - i, i == 29 ? 0 : i + 1);
        }
        for (int i = 0; i < 30; i++) {
            Check.due("P11 office of " + i, x.rule(i, 0), i % 2);
            Check.due("P11 whether " + i + " allows", x.rule(i, 1), i % 3 == 0 ? 1 : 0);
            Check.due("P11 first side of " + i, x.rule(i, 2), i == 0 ? 0 : 251 - i);
            Check.due("P11 second side of " + i, x.rule(i, 3), i == 29 ? 0 : i + 1);
        }
    }

    private static void ruleRange() {
        NetMerge x = Check.made("nets;rule 0 allow 1 2;rule 1 deny 3 4;");
        int[] wrongRules = {-1, 2, 3, 29, 30, Integer.MIN_VALUE, Integer.MAX_VALUE};
        for (int rule : wrongRules) {
            Check.refused("P11 rule " + rule, x, java.util.NoSuchElementException.class, () -> x.rule(rule, 0));
        }
        int[] wrongWhats = {-1, 4, 5, Integer.MIN_VALUE, Integer.MAX_VALUE};
        for (int what : wrongWhats) {
            Check.refused("P11 what " + what, x, java.util.NoSuchElementException.class, () -> x.rule(1, what));
        }
        Check.missing("P11 no rules", () -> new NetMerge().rule(0, 0));
        x.removeRule(0);
        Check.missing("P11 a rule that went", () -> x.rule(1, 0));
        Check.due("P11 the rule that is left", x.rule(0, 2), 3);
    }

    /** Section 3: "A side matches a number in a net if it is any, if it is this number, or if a host of that net holds both". */
    private static void sidesThatMatch() {
        NetMerge any = Check.made("nets;rule 0 allow any any;");
        decided("any", any, 0, 1, 250, 0, true);
        decided("any of another office", any, 1, 1, 250, -1, false);
        NetMerge number = Check.made("nets;rule 0 allow 1 250;");
        decided("these numbers", number, 0, 1, 250, 0, true);
        decided("another first one", number, 0, 2, 250, -1, false);
        decided("another second one", number, 0, 1, 249, -1, false);
        decided("in turn", number, 0, 250, 1, -1, false);
        NetMerge x = Check.made("nets;host a 0 5;host b 1 5;move a 6 1;");
        x.wave();
        x.addRule(0, true, 5, 9);
        x.addRule(0, true, 9, 6);
        x.addRule(1, true, 5, 9);
        decided("a host holds both, first side", x, 0, 6, 9, 0, true);
        decided("this number, first side", x, 0, 5, 9, 0, true);
        decided("a host holds both, second side", x, 0, 9, 5, 1, true);
        decided("this number, second side", x, 0, 9, 6, 1, true);
        decided("a host of another net holds both", x, 1, 6, 9, -1, false);
        decided("this number in that net", x, 1, 5, 9, 2, true);
        x.wave();
        decided("it holds both no longer, first side", x, 0, 6, 9, -1, false);
        decided("it holds both no longer, second side", x, 0, 9, 5, -1, false);
        NetMerge open = Check.made("nets;host a 0 5;host b 1 7;move a 6 1;rule 1 allow 5 9;");
        open.wave();
        decided("closed: a host of another net", open, 1, 6, 9, -1, false);
        open.open();
        decided("open: a host of the one net", open, 1, 6, 9, 0, true);
        decided("open: asked of the other office", open, 0, 6, 9, 0, true);
    }

    /** Section 3: "decided by the first rule of the net (by number; all rules if the bridge is open) ...; denied without such a rule". */
    private static void theFirstRuleOfTheNet() {
        NetMerge x = Check.made("nets;rule 1 deny any any;rule 0 deny 1 any;rule 0 allow any 2;rule 0 allow 1 2;rule 1 allow any any;");
        decided("the first of two", x, 0, 1, 2, 1, false);
        decided("the second as the first does not match", x, 0, 3, 2, 2, true);
        decided("the first of the other office", x, 1, 1, 2, 0, false);
        decided("none", x, 0, 3, 3, -1, false);
        x.open();
        decided("open: all rules", x, 0, 1, 2, 0, false);
        decided("open: all rules, asked of office 1", x, 1, 3, 3, 0, false);
        x.removeRule(0);
        decided("open: the first that is left", x, 1, 1, 2, 0, false);
        decided("open: the second that is left", x, 1, 9, 2, 1, true);
        decided("open: the last", x, 0, 3, 3, 3, true);
        x.close();
        decided("closed: the last is not of this net", x, 0, 3, 3, -1, false);
        NetMerge full = new NetMerge();
        for (int i = 0; i < 29; i++) {
            full.addRule(0, false, i + 1, 250);
        }
        full.addRule(0, true, 0, 250);
        decided("the first of 30", full, 0, 1, 250, 0, false);
        decided("the 29th of 30", full, 0, 29, 250, 28, false);
        decided("the last of 30", full, 0, 30, 250, 29, true);
        decided("none of 30", full, 0, 30, 1, -1, false);
    }

    private static void decided(String what, NetMerge x, int office, int from, int to, int rule, boolean allowed) {
        Check.due("P12 " + what, x.decides(office, from, to), rule);
        Check.due("P13 " + what, x.allows(office, from, to), allowed);
    }

    /** P12, P13: "if there is no such office (checked first)", "if a number is out of range". */
    private static void decidesRange() {
        NetMerge x = Check.made("nets;rule 0 allow any any;rule 1 allow any any;");
        for (int office : NO_OFFICES) {
            Check.refused("P12 office " + office, x, java.util.NoSuchElementException.class, () -> x.decides(office, 1, 1));
            Check.refused("P13 office " + office, x, java.util.NoSuchElementException.class, () -> x.allows(office, 1, 1));
            Check.missing("P12 office " + office + " is checked first", () -> x.decides(office, 0, 251));
            Check.missing("P13 office " + office + " is checked first", () -> x.allows(office, 0, 251));
        }
        for (int number : NO_NUMBERS) {
            Check.refused("P12 from " + number, x, IllegalArgumentException.class, () -> x.decides(0, number, 1));
            Check.refused("P12 to " + number, x, IllegalArgumentException.class, () -> x.decides(1, 1, number));
            Check.refused("P13 from " + number, x, IllegalArgumentException.class, () -> x.allows(0, number, 1));
            Check.refused("P13 to " + number, x, IllegalArgumentException.class, () -> x.allows(1, 1, number));
        }
        decided("the least numbers", x, 0, 1, 1, 0, true);
        decided("the greatest numbers", x, 1, 250, 250, 1, true);
    }

    /** P14: "how many other hosts of its net a host reaches". */
    private static void reachCounts() {
        NetMerge x = new NetMerge();
        for (int i = 0; i < 40; i++) {
            x.addHost(i < 39 ? 0 : 1, 10 + i);
        }
        Check.due("P14 without a rule it is denied", x.reach(0), 0);
        x.addRule(0, true, 0, 0);
        Check.due("P14 all others of its net, the first one", x.reach(0), 38);
        Check.due("P14 all others of its net, the last one", x.reach(38), 38);
        Check.due("P14 one that is alone", x.reach(39), 0);
        x.open();
        Check.due("P14 all others of the one net", x.reach(0), 39);
        Check.due("P14 it is no longer alone", x.reach(39), 39);
        x.addRule(1, false, 0, 0);
        Check.due("P14 a later rule decides nothing", x.reach(39), 39);
        x.removeRule(0);
        Check.due("P14 now it decides", x.reach(39), 0);
        NetMerge y = Check.made("nets;host a 0 5;host b 0 6;host c 0 7;rule 0 deny 5 6;rule 0 allow 5 any;rule 0 allow any 6;");
        Check.due("P14 from its number to theirs: a", y.reach(0), 1);
        Check.due("P14 from its number to theirs: b", y.reach(1), 0);
        Check.due("P14 from its number to theirs: c", y.reach(2), 1);
        NetMerge alone = Check.made("nets;host a 0 5;rule 0 allow any any;");
        Check.due("P14 not itself", alone.reach(0), 0);
    }

    private static void reachByKeptNumbers() {
        NetMerge x = Check.made("nets keep 2;host a 0 5;host b 0 6;move a 15 1;move b 16 1;");
        x.wave();
        x.addRule(0, true, 5, 6);
        Check.due("P14 by numbers that both keep", x.reach(0), 1);
        Check.due("P14 not back", x.reach(1), 0);
        x.wave();
        Check.due("P14 still kept", x.reach(0), 1);
        x.wave();
        Check.due("P14 no longer kept", x.reach(0), 0);
    }

    private static void reachRange() {
        NetMerge x = Check.made("nets;host a 0 5;host b 1 6;");
        int[] wrong = {-1, 2, 39, 40, Integer.MIN_VALUE, Integer.MAX_VALUE};
        for (int host : wrong) {
            Check.refused("P14 host " + host, x, java.util.NoSuchElementException.class, () -> x.reach(host));
        }
        Check.missing("P14 no hosts", () -> new NetMerge().reach(0));
    }

    /** P15: "the smallest number of the pool that no host holds and to which no plan leads; NONE if there is none". */
    private static void freeNumbers() {
        NetMerge x = Check.made("nets keep 1 pool 1 3;");
        Check.due("P15 the least of all", x.freeNumber(), 1);
        x.addHost(0, 1);
        Check.due("P15 one of office 0 holds it", x.freeNumber(), 2);
        x.addHost(1, 2);
        Check.due("P15 one of office 1 holds it", x.freeNumber(), 3);
        x.plan(0, 3, 9);
        Check.due("P15 a plan leads to it: NONE", x.freeNumber(), NetMerge.NONE);
        x.unplan(0);
        Check.due("P15 no plan any more", x.freeNumber(), 3);
        x.plan(0, 9, 1);
        x.wave();
        Check.due("P15 a kept number is held", x.freeNumber(), 3);
        x.wave();
        Check.due("P15 it is not any more", x.freeNumber(), 1);
        NetMerge one = Check.made("nets pool 250 250;host a 0 249;");
        Check.due("P15 a pool of one, the greatest of all", one.freeNumber(), 250);
        one.plan(0, 250, 1);
        Check.due("P15 to which a plan leads", one.freeNumber(), NetMerge.NONE);
        one.setPinned(0, true);
        Check.due("P15 the plan is gone", one.freeNumber(), 250);
        one.addHost(1, 250);
        Check.due("P15 which is held", one.freeNumber(), NetMerge.NONE);
        NetMerge gap = Check.made("nets pool 9 12;host a 0 9;host b 1 9;host c 1 11;host d 0 8;host e 0 13;");
        Check.due("P15 the smallest, within the pool", gap.freeNumber(), 10);
        gap.addHost(0, 10);
        Check.due("P15 the last of the pool", gap.freeNumber(), 12);
        gap.addHost(0, 12);
        Check.due("P15 not beyond the pool", gap.freeNumber(), NetMerge.NONE);
    }
}
