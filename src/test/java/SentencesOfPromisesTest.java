import java.util.NoSuchElementException;

/**
 * Promises 1 to 42 from the first line to the last: each sentence is quoted in its order, and what it says
 * is looked at once behind it. The edges of the sentences stand in the Edge tests.
 */
public final class SentencesOfPromisesTest {
    private static final int MIN = Integer.MIN_VALUE;
    private static final int MAX = Integer.MAX_VALUE;

    public static void main(String[] args) {
        constants();
        newObject();
        feed();
        load();
        errorPosition();
        size();
        host();
        name();
        holder();
        clash();
        plans();
        rule();
        decides();
        allows();
        reach();
        freeNumber();
        whyNot();
        conflict();
        rewrites();
        clashesIn();
        openIn();
        movedShare();
        meanReach();
        addHost();
        removeHost();
        plan();
        unplan();
        settle();
        settleEnds();
        wave();
        back();
        open();
        close();
        addRule();
        removeRule();
        setKeep();
        setPinned();
        format();
        formattedByte();
        undoCount();
        undo();
        saveSnapshot();
        restoreSnapshot();
        query();
        Check.end("SentencesOfPromisesTest");
    }

    /** "NONE = -1: There is no such value. HIDDEN = -1000000000: Error results of query start here." */
    private static void constants() {
        Check.due("NONE", NetMerge.NONE, -1);
        Check.due("HIDDEN", NetMerge.HIDDEN, -1000000000);
    }

    /** P1: "Creates two nets without hosts and rules as by the text "nets;"." */
    private static void newObject() {
        NetMerge x = new NetMerge();
        Check.due("P1", Check.shown(x), "0 0 0 0 1 3 200 250 0 0 0 ");
        Check.due("P1 as by the text", Check.stands(Check.made("nets;")), Check.stands(x));
        Check.due("P1 nothing to undo, no error, no text", x.undoCount() + " " + x.errorPosition() + " " + x.formattedByte(0), "0 -1 -1");
    }

    /**
     * P2: "Appends 20 bytes to the buffer: the four bytes of each parameter, the most significant byte first.
     * Returns the number of bytes in the buffer; NONE if it would exceed 900, and then nothing is appended."
     */
    private static void feed() {
        NetMerge x = new NetMerge();
        Check.due("P2 20 bytes", x.feed(0x6e657473, 0x206b6565, 0x70203020, 0x70657220, 0x373b203f), 20);
        Check.due("P2 \"nets keep 0 per 7; \"", x.load(19), 0);
        Check.due("P2 in their order", x.size(4) * 10 + x.size(5), 7);
        for (int calls = 1; calls <= 45; calls++) {
            Check.due("P2 call " + calls, x.feed(0x20202020, 0x20202020, 0x20202020, 0x20202020, 0x20202020), 20 * calls);
        }
        Check.due("P2 it would exceed 900", x.feed(0x3f3f3f3f, 0, 0, 0, 0), -1);
        Check.illegal("P2 nothing is appended", () -> x.load(901));
        Check.due("P2 900 spaces", x.load(900), -11);
        Check.due("P2 all of them spaces", x.errorPosition(), 900);
        Check.due("P2 there is room again", x.feed(0, 0, 0, 0, 0), 20);
    }

    /**
     * P3: "Reads the first bytes of the buffer as a text, which replaces everything (no wave was done); the undo
     * history and the snapshot are discarded. The buffer is empty afterwards, also after an error. Returns the
     * number of hosts; -10 minus the error code if the text has an error (then only the buffer and the error
     * position change). Throws IllegalArgumentException if length is negative or greater than the number of
     * bytes in the buffer (nothing changes)"
     */
    private static void load() {
        NetMerge x = Check.made("nets keep 3 per 9 pool 1 2;host a 0 5;host b 1 6;move a 7 1;rule 0 allow any any;");
        x.wave();
        x.open();
        x.saveSnapshot();
        Check.feed(x, "nets;host z 1 9;?");
        Check.refused("P3 more than there are", x, IllegalArgumentException.class, () -> x.load(21));
        Check.refused("P3 negative", x, IllegalArgumentException.class, () -> x.load(-1));
        Check.refused("P3 negative", x, IllegalArgumentException.class, () -> x.load(MIN));
        Check.refused("P3 far more than there are", x, IllegalArgumentException.class, () -> x.load(MAX));
        Check.due("P3 the first bytes, the number of hosts", x.load(16), 1);
        Check.due("P3 everything is replaced", Check.shown(x), "1 0 0 0 1 3 200 250 0 0 0 | z 1 9 0 0 0 0 0");
        Check.due("P3 the history is discarded", x.undo(), -1);
        Check.due("P3 the snapshot is discarded", x.restoreSnapshot(), false);
        Check.illegal("P3 the buffer is empty", () -> x.load(1));
        x.unplan(0);
        x.saveSnapshot();
        Check.due("P3 error code 2", Check.load(x, "nets;host y 1 9;host b 1 0;"), -12);
        Check.due("P3 the error position changes", x.errorPosition(), 25);
        Check.illegal("P3 the buffer is empty, also after an error", () -> x.load(1));
        Check.due("P3 nothing else changes", Check.shown(x), "1 0 0 0 1 3 200 250 0 0 0 | z 1 9 0 0 0 0 0");
        Check.due("P3 nor the history", x.undoCount(), 1);
        Check.due("P3 nor the snapshot", x.restoreSnapshot(), true);
    }

    /**
     * P4: "Returns the position of the error of the most recent call of load or query that read the buffer; NONE
     * if that call had no error, or there was no such call."
     */
    private static void errorPosition() {
        NetMerge x = new NetMerge();
        Check.due("P4 no such call", x.errorPosition(), -1);
        Check.load(x, "nets:");
        Check.due("P4 of load", x.errorPosition(), 4);
        Check.illegal("P4 it does not read", () -> x.query(1));
        Check.due("P4 the most recent one that read", x.errorPosition(), 4);
        Check.query(x, "many 1:1");
        Check.due("P4 of query", x.errorPosition(), 6);
        Check.query(x, "many 1=1");
        Check.due("P4 no error", x.errorPosition(), -1);
        Check.load(x, "?");
        Check.due("P4 of load again", x.errorPosition(), 0);
        Check.load(x, "nets;");
        Check.due("P4 no error again", x.errorPosition(), -1);
    }

    /**
     * P5: "Returns a number of the whole. what: 0 hosts, 1 rules, 2 plans, 3 the wave count, 4 KEEP, 5 PER, 6
     * and 7 the first and the last number of the pool, 8 1 if the bridge is open, otherwise 0, 9 clashes, 10
     * hosts that keep an old number. Throws NoSuchElementException if what is out of range"
     */
    private static void size() {
        NetMerge x = Check.made("nets keep 2 per 4 pool 11 12;host a 0 5;host b 1 5;host c 0 6;host d 0 7;host e 1 8;"
                + "rule 0 allow any any;rule 1 deny any any;move a 20 1;move b 21 1;move c 8 1;move d 22 2;");
        x.wave();
        x.plan(4, 30, 9);
        int[] due = {5, 2, 2, 1, 2, 4, 11, 12, 0, 2, 3};
        for (int what = 0; what <= 10; what++) {
            Check.due("P5 " + what, x.size(what), due[what]);
        }
        NetMerge open = new NetMerge();
        open.open();
        Check.due("P5 open", open.size(8), 1);
        for (int what : new int[] {-1, 11, MIN, MAX}) {
            Check.missing("P5 " + what, () -> x.size(what));
        }
    }

    /**
     * P6: "Returns a number of a host: what 0 its office, 1 its number, 2 the number that it keeps (0 without
     * one), 3 1 if it is pinned, otherwise 0, 4 the number and 5 the wave of its plan (0 without one), 6 the wave
     * in which it moved most recently (0 without one; a wave from which it went back does not count). Throws
     * NoSuchElementException if there is no such host or what is out of range"
     */
    private static void host() {
        NetMerge x = Check.made("nets;host a 1 5;host b 0 6 pinned;move a 7 1;");
        Check.due("P6 ahead of the wave", Check.host(x, 0), "1 5 0 0 7 1 0");
        x.wave();
        Check.due("P6 behind the wave", Check.host(x, 0), "1 7 5 0 0 0 1");
        x.plan(0, 8, 3);
        x.wave();
        x.wave();
        Check.due("P6 most recently in wave 3", Check.host(x, 0), "1 8 7 0 0 0 3");
        x.back();
        Check.due("P6 wave 3 does not count", Check.host(x, 0), "1 7 0 0 8 3 1");
        x.back();
        x.back();
        Check.due("P6 nor wave 1", Check.host(x, 0), "1 5 0 0 8 3 0");
        Check.due("P6 pinned", Check.host(x, 1), "0 6 0 1 0 0 0");
        for (int wrong : new int[] {-1, 2, MIN, MAX}) {
            Check.missing("P6 host " + wrong, () -> x.host(wrong, 0));
        }
        for (int wrong : new int[] {-1, 7, MIN, MAX}) {
            Check.missing("P6 what " + wrong, () -> x.host(0, wrong));
        }
    }

    /**
     * P7: "Returns a letter of the name of a host as a byte, from 0; NONE if there are not so many, or index is
     * negative. The names of hosts of addHost are empty. Throws NoSuchElementException if there is no such host"
     */
    private static void name() {
        NetMerge x = Check.made("nets;host az 0 5;host abcdefgh 0 6;");
        Check.due("P7 from 0", x.name(0, 0) * 1000 + x.name(0, 1), 97122);
        Check.due("P7 not so many", x.name(0, 2), -1);
        Check.due("P7 the eighth", x.name(1, 7), 104);
        for (int index : new int[] {8, 64, MAX, -1, -8, MIN}) {
            Check.due("P7 index " + index, x.name(1, index), -1);
        }
        x.addHost(0, 7);
        Check.due("P7 empty", x.name(2, 0), -1);
        Check.missing("P7 no host 3", () -> x.name(3, 0));
        Check.missing("P7 no host -1", () -> x.name(-1, -1));
    }

    /**
     * P8: "Returns the host of an office that holds a number; NONE if none does. Throws NoSuchElementException if
     * there is no such office (checked first). Throws IllegalArgumentException if number is out of range"
     */
    private static void holder() {
        NetMerge x = Check.made("nets;host a 0 5;host b 1 5;host c 1 250;");
        Check.due("P8 of office 0", x.holder(0, 5), 0);
        Check.due("P8 of office 1", x.holder(1, 5), 1);
        Check.due("P8 250", x.holder(1, 250), 2);
        Check.due("P8 none", x.holder(0, 250), -1);
        x.removeHost(1);
        x.open();
        Check.due("P8 of an office, also if the bridge is open", x.holder(1, 5), -1);
        Check.missing("P8 checked first", () -> x.holder(2, 0));
        Check.missing("P8 checked first", () -> x.holder(-1, 251));
        Check.illegal("P8 0", () -> x.holder(0, 0));
        Check.illegal("P8 251", () -> x.holder(1, 251));
    }

    /** P9: "Returns a clash, from 0 in ascending order. Throws NoSuchElementException if there are not so many" */
    private static void clash() {
        NetMerge x = Check.made("nets;host a 0 250;host b 0 1;host c 0 9;host d 1 9;host e 1 250;host f 1 1;");
        Check.due("P9 ascending", x.clash(0) + " " + x.clash(1) + " " + x.clash(2), "1 9 250");
        for (int index : new int[] {3, -1, MAX, MIN}) {
            Check.missing("P9 index " + index, () -> x.clash(index));
        }
        Check.missing("P9 none at all", () -> new NetMerge().clash(0));
    }

    /** P10: "Returns how many plans a wave has. Throws IllegalArgumentException if wave is not 1 to 9" */
    private static void plans() {
        NetMerge x = Check.made("nets;host a 0 5;host b 0 6;host c 1 7;move a 9 1;move b 8 9;move c 8 9;");
        Check.due("P10", x.plans(1) + " " + x.plans(2) + " " + x.plans(9), "1 0 2");
        for (int wave : new int[] {0, 10, -1, MAX, MIN}) {
            Check.illegal("P10 wave " + wave, () -> x.plans(wave));
        }
    }

    /**
     * P11: "Returns a number of a rule: what 0 its office, 1 1 if it allows, otherwise 0, 2 its first side, 3 its
     * second side. Throws NoSuchElementException if there is no such rule or what is out of range"
     */
    private static void rule() {
        NetMerge x = Check.made("nets;rule 1 allow 5 any;rule 0 deny any 250;");
        int[][] due = {{1, 1, 5, 0}, {0, 0, 0, 250}};
        for (int rule = 0; rule < 2; rule++) {
            for (int what = 0; what < 4; what++) {
                Check.due("P11 " + rule + " " + what, x.rule(rule, what), due[rule][what]);
            }
        }
        for (int wrong : new int[] {-1, 2, MAX, MIN}) {
            Check.missing("P11 rule " + wrong, () -> x.rule(wrong, 0));
        }
        for (int wrong : new int[] {-1, 4, MAX, MIN}) {
            Check.missing("P11 what " + wrong, () -> x.rule(0, wrong));
        }
    }

    /**
     * P12: "Returns the rule that decides what goes from a number to a number in the net of an office; NONE
     * without one. Throws NoSuchElementException if there is no such office (checked first). Throws
     * IllegalArgumentException if a number is out of range"
     */
    private static void decides() {
        NetMerge x = Check.made("nets;rule 1 allow any 5;rule 0 deny 6 any;rule 1 deny any any;");
        Check.due("P12 of office 0", x.decides(0, 6, 5), 1);
        Check.due("P12 of office 1", x.decides(1, 6, 5), 0);
        Check.due("P12 of office 1, another", x.decides(1, 5, 6), 2);
        Check.due("P12 without one", x.decides(0, 5, 6), -1);
        Check.missing("P12 checked first", () -> x.decides(2, 0, 0));
        Check.missing("P12 checked first", () -> x.decides(-1, 251, 1));
        Check.illegal("P12 from 0", () -> x.decides(0, 0, 1));
        Check.illegal("P12 from 251", () -> x.decides(0, 251, 1));
        Check.illegal("P12 to 0", () -> x.decides(1, 1, 0));
        Check.illegal("P12 to 251", () -> x.decides(1, 1, 251));
    }

    /**
     * P13: "Returns whether this is allowed. Throws NoSuchElementException if there is no such office (checked
     * first). Throws IllegalArgumentException if a number is out of range"
     */
    private static void allows() {
        NetMerge x = Check.made("nets;rule 1 allow any 5;rule 0 deny 6 any;rule 0 allow any any;");
        Check.due("P13 denied", x.allows(0, 6, 5), false);
        Check.due("P13 allowed", x.allows(0, 5, 6), true);
        Check.due("P13 allowed in 1", x.allows(1, 6, 5), true);
        Check.due("P13 denied without a rule", x.allows(1, 5, 6), false);
        Check.missing("P13 checked first", () -> x.allows(2, 0, 0));
        Check.missing("P13 checked first", () -> x.allows(-1, 1, 251));
        Check.illegal("P13 from 0", () -> x.allows(0, 0, 1));
        Check.illegal("P13 from 251", () -> x.allows(1, 251, 1));
        Check.illegal("P13 to 0", () -> x.allows(0, 1, 0));
        Check.illegal("P13 to 251", () -> x.allows(1, 1, 251));
    }

    /**
     * P14: "Returns how many other hosts of its net a host reaches: what goes from its number to theirs is
     * allowed. Throws NoSuchElementException if there is no such host"
     */
    private static void reach() {
        NetMerge x = Check.made("nets;host a 0 1;host b 0 2;host c 0 3;host d 1 4;rule 0 deny any 3;rule 0 allow 1 any;rule 0 allow any 2;");
        Check.due("P14 a reaches b alone", x.reach(0), 1);
        Check.due("P14 b does not reach itself", x.reach(1), 0);
        Check.due("P14 c reaches b", x.reach(2), 1);
        Check.due("P14 d is alone in its net", x.reach(3), 0);
        x.open();
        Check.due("P14 open: a reaches b and d", x.reach(0), 2);
        Check.due("P14 open: d reaches b", x.reach(3), 1);
        for (int wrong : new int[] {-1, 4, MAX, MIN}) {
            Check.missing("P14 host " + wrong, () -> x.reach(wrong));
        }
    }

    /** P15: "Returns the smallest number of the pool that no host holds and to which no plan leads; NONE if there is none." */
    private static void freeNumber() {
        NetMerge x = Check.made("nets pool 5 8;host a 0 4;host b 1 5;move b 6 1;");
        Check.due("P15 5 is held, to 6 leads a plan", x.freeNumber(), 7);
        x.wave();
        Check.due("P15 5 is kept", x.freeNumber(), 7);
        x.wave();
        Check.due("P15 5 is kept no longer", x.freeNumber(), 5);
        x.plan(0, 5, 9);
        Check.due("P15 to 5 leads a plan", x.freeNumber(), 7);
        x.addHost(0, 7);
        Check.due("P15 the last of the pool", x.freeNumber(), 8);
        x.addHost(1, 8);
        Check.due("P15 none", x.freeNumber(), -1);
    }

    /** P16: "Returns what wave() would return now, but 0 instead of the moves." */
    private static void whyNot() {
        NetMerge x = Check.made("nets keep 2;host a 0 4;host b 0 5;move a 6 1;");
        whyNot(x, 0, 1);
        x.plan(0, 7, 2);
        whyNot(x, -3, -3);
        x.unplan(0);
        x.plan(1, 4, 2);
        whyNot(x, -4, -4);
        x.unplan(1);
        for (int wave = 2; wave <= 9; wave++) {
            whyNot(x, 0, 0);
        }
        whyNot(x, -2, -2);
    }

    private static void whyNot(NetMerge x, int why, int wave) {
        String before = Check.stands(x);
        Check.due("P16", x.whyNot(), why);
        Check.due("P16 nothing is done", Check.stands(x), before);
        Check.due("P16 what wave would return", x.wave(), wave);
    }

    /**
     * P17: "Returns the smallest number that two hosts of a net would hold behind the next wave (if it was done
     * all the same); NONE if there is none, or 9 waves were done."
     */
    private static void conflict() {
        NetMerge x = Check.made("nets keep 1;host a 0 4;host b 0 9;host c 1 30;host d 1 31;move a 9 1;move c 8 1;move d 8 1;");
        Check.due("P17 8 and 9", x.conflict(), 8);
        x.unplan(3);
        Check.due("P17 9", x.conflict(), 9);
        x.plan(1, 4, 1);
        Check.due("P17 4 and 9, both kept and new", x.conflict(), 4);
        x.setKeep(0);
        Check.due("P17 none: an exchange", x.conflict(), -1);
        x.wave();
        x.setKeep(3);
        Check.due("P17 setKeep is refused, so none", x.conflict(), -1);
        NetMerge keeper = Check.made("nets keep 2;host a 0 4;host b 0 9;move a 5 1;");
        keeper.wave();
        keeper.plan(0, 9, 2);
        Check.due("P17 the wave is refused", keeper.whyNot(), -3);
        Check.due("P17 if it was done all the same", keeper.conflict(), 9);
        Check.waves(x, 8);
        x.plan(0, 4, 9);
        Check.due("P17 9 waves were done", x.conflict(), -1);
    }

    /**
     * P18: "Returns how many sides of rules would name another number behind the next wave; NONE if it would be
     * refused."
     */
    private static void rewrites() {
        NetMerge x = Check.made("nets keep 2;host a 0 4;host b 0 9;host c 1 4;move a 5 1;move b 9 1;move c 6 1;"
                + "rule 0 allow 4 4;rule 0 deny 9 any;rule 1 deny 5 4;rule 1 deny 9 any;");
        Check.due("P18 three sides; b moves to the number that it has", x.rewrites(), 3);
        Check.due("P18 nothing is done", Check.sides(x), "4 4 9 0 5 4 9 0");
        x.wave();
        Check.due("P18 nobody moves", x.rewrites(), 0);
        x.plan(0, 7, 2);
        Check.due("P18 it would be refused", x.rewrites(), -1);
        x.unplan(0);
        Check.waves(x, 8);
        Check.due("P18 9 waves were done", x.rewrites(), -1);
    }

    /**
     * P19: "waves: 0 to 9. Returns the clashes that there would be behind so many waves; NONE if one of them
     * would be refused. Throws IllegalArgumentException if waves is out of range"
     */
    private static void clashesIn() {
        NetMerge x = Check.made("nets;host a 0 4;host b 1 4;host c 0 5;host d 1 5;move a 6 1;move c 7 2;move b 8 4;move d 8 4;");
        int[] due = {2, 2, 1, 0, -1, -1, -1, -1, -1, -1};
        for (int waves = 0; waves <= 9; waves++) {
            Check.due("P19 behind " + waves, x.clashesIn(waves), due[waves]);
        }
        x.unplan(3);
        Check.due("P19 behind all 9", x.clashesIn(9), 0);
        x.wave();
        Check.due("P19 a tenth would be refused", x.clashesIn(9), -1);
        Check.due("P19 behind the ninth", x.clashesIn(8), 0);
        for (int waves : new int[] {-1, 10, MAX, MIN}) {
            Check.illegal("P19 " + waves, () -> x.clashesIn(waves));
        }
    }

    /**
     * P20: "Returns the least number of waves behind which there are no clashes; NONE if one of them would be
     * refused, or there are still clashes behind the ninth wave."
     */
    private static void openIn() {
        NetMerge x = Check.made("nets;host a 0 4;host b 1 4;host c 0 9;move a 6 3;");
        Check.due("P20 moved in the third, kept until the fourth", x.openIn(), 4);
        x.plan(2, 4, 2);
        Check.due("P20 the second would be refused", x.openIn(), -1);
        x.unplan(2);
        x.plan(0, 6, 9);
        Check.due("P20 kept behind the ninth", x.openIn(), -1);
        x.setKeep(0);
        Check.due("P20 not kept behind the ninth", x.openIn(), 9);
        x.removeHost(1);
        Check.due("P20 no clashes now", x.openIn(), 0);
        x.plan(0, 9, 1);
        Check.due("P20 no clashes now, though the next would be refused", x.openIn(), 0);
    }

    /**
     * P21: "Returns the hosts that moved at least once (and did not go back) divided by all hosts, as floats (both
     * converted, then divided); 0 without hosts."
     */
    private static void movedShare() {
        NetMerge x = new NetMerge();
        Check.due("P21 without hosts", x.movedShare(), 0f);
        Check.load(x, "nets keep 0;host a 0 1;host b 0 2;host c 0 3;move a 9 1;move b 8 2;");
        Check.due("P21 none yet", x.movedShare(), 0f);
        Check.waves(x, 2);
        Check.due("P21 two of three", x.movedShare(), 2f / 3f);
        x.plan(0, 7, 3);
        x.wave();
        Check.due("P21 at least once", x.movedShare(), 2f / 3f);
        x.back();
        Check.due("P21 a went back from one of two", x.movedShare(), 2f / 3f);
        x.back();
        Check.due("P21 b went back", x.movedShare(), 1f / 3f);
        x.removeHost(0);
        Check.due("P21 hosts that are there", x.movedShare(), 0f);
    }

    /**
     * P22: "Returns what all hosts reach, added up, divided by the hosts, as doubles (both converted, then
     * divided); 0 without hosts."
     */
    private static void meanReach() {
        NetMerge x = new NetMerge();
        Check.due("P22 without hosts", x.meanReach(), 0d);
        Check.load(x, "nets;host a 0 1;host b 0 2;host c 1 3;rule 0 allow any any;");
        Check.due("P22 two by three", x.meanReach(), 2d / 3d);
        x.open();
        Check.due("P22 six by three", x.meanReach(), 2d);
        x.removeRule(0);
        Check.due("P22 nobody", x.meanReach(), 0d);
    }

    /**
     * P23: "Operation: a host comes, not pinned, without a name. Returns its number as a host; -2 if there are
     * 40, -3 if a host of its net holds the number. Throws NoSuchElementException if there is no such office
     * (checked first). Throws IllegalArgumentException if number is out of range"
     */
    private static void addHost() {
        NetMerge x = Check.made("nets;host a 0 5;move a 6 1;");
        x.wave();
        Check.due("P23 its number as a host", x.addHost(1, 250), 1);
        Check.due("P23 not pinned, no name", Check.formatted(x, 1) + "," + Check.host(x, 1), " 250,1 250 0 0 0 0 0");
        Check.refused("P23 its number", x, -3, () -> x.addHost(0, 6));
        Check.refused("P23 the kept one", x, -3, () -> x.addHost(0, 5));
        Check.due("P23 the other net", x.addHost(1, 5), 2);
        Check.refused("P23 no such office", x, NoSuchElementException.class, () -> x.addHost(2, 0));
        Check.refused("P23 no such office", x, NoSuchElementException.class, () -> x.addHost(-1, 7));
        Check.refused("P23 0", x, IllegalArgumentException.class, () -> x.addHost(0, 0));
        Check.refused("P23 251", x, IllegalArgumentException.class, () -> x.addHost(1, 251));
        for (int host = 3; host < 40; host++) {
            x.addHost(0, 10 + host);
        }
        Check.due("P23 there are 40, checked ahead of -3", x.addHost(0, 6), -2);
        Check.illegal("P23 exceptions first", () -> x.addHost(0, 251));
    }

    /**
     * P24: "Operation: a host goes, with its plan; rules stay. Returns how many hosts are left. Throws
     * NoSuchElementException if there is no such host"
     */
    private static void removeHost() {
        NetMerge x = Check.made("nets;host a 0 5;host b 0 6;host c 1 7;move b 9 1;move c 10 2;rule 0 deny 6 9;");
        Check.due("P24 how many are left", x.removeHost(1), 2);
        Check.due("P24 with its plan", x.plans(1), 0);
        Check.due("P24 c is 1 now", Check.formatted(x, 1), "c 7 > 10@2");
        Check.due("P24 rules stay", Check.sides(x), "6 9");
        for (int wrong : new int[] {-1, 2, MAX, MIN}) {
            Check.refused("P24 host " + wrong, x, NoSuchElementException.class, () -> x.removeHost(wrong));
        }
        x.removeHost(1);
        Check.due("P24 the last one", x.removeHost(0), 0);
        Check.missing("P24 nobody is left", () -> x.removeHost(0));
    }

    /**
     * P25: "Operation: plans a move of a host, in place of a plan that it has. number: 1 to 250, also one that is
     * held. wave: 1 to 9. Returns the plans of that wave then; -2 if the host is pinned, -3 if the wave is not
     * above the wave count, -4 if the wave has PER plans without that of this host. Throws NoSuchElementException
     * if there is no such host (checked first). Throws IllegalArgumentException if number or wave is out of range"
     */
    private static void plan() {
        NetMerge x = Check.made("nets per 2;host a 0 5;host b 0 6;host c 0 7;host d 0 8 pinned;");
        Check.due("P25 one that is held", x.plan(0, 6, 9), 1);
        Check.due("P25 two plans", x.plan(1, 250, 9), 2);
        Check.refused("P25 PER plans", x, -4, () -> x.plan(2, 1, 9));
        Check.due("P25 PER plans, one of them its own", x.plan(1, 1, 9), 2);
        Check.due("P25 in place of the plan that it had", Check.host(x, 1), "0 6 0 0 1 9 0");
        Check.due("P25 in another wave", x.plan(1, 1, 8), 1);
        Check.due("P25 there is room again", x.plan(2, 1, 9), 2);
        Check.refused("P25 pinned", x, -2, () -> x.plan(3, 1, 1));
        x.wave();
        Check.refused("P25 wave 1 was done", x, -3, () -> x.plan(0, 1, 1));
        Check.missing("P25 no host 4, checked first", () -> x.plan(4, 0, 0));
        Check.missing("P25 no host -1, checked first", () -> x.plan(-1, 251, 10));
        int[][] wrong = {{0, 5}, {251, 5}, {5, 0}, {5, 10}, {MIN, 5}, {5, MAX}};
        for (int[] each : wrong) {
            Check.refused("P25 " + each[0] + " " + each[1], x, IllegalArgumentException.class, () -> x.plan(3, each[0], each[1]));
        }
    }

    /**
     * P26: "Operation: a host has no plan then. Returns the wave of its plan; 0 if there was none. Throws
     * NoSuchElementException if there is no such host"
     */
    private static void unplan() {
        NetMerge x = Check.made("nets;host a 0 5;host b 0 6;move a 9 7;move b 8 7;");
        Check.due("P26 the wave", x.unplan(0), 7);
        Check.due("P26 no plan then", Check.host(x, 0), "0 5 0 0 0 0 0");
        Check.due("P26 that of b stays", x.plans(7), 1);
        Check.due("P26 none", x.unplan(0), 0);
        for (int wrong : new int[] {-1, 2, MAX, MIN}) {
            Check.refused("P26 host " + wrong, x, NoSuchElementException.class, () -> x.unplan(wrong));
        }
    }

    /**
     * P27: "Operation: plans moves for clashes: for each clash, in ascending order, one host is chosen: the host
     * of the office 1 that has it as its number (not as one that it keeps) and is not pinned; without such a one
     * the host of the office 0 that has it so and is not pinned. If there is one and it has no plan, it gets a plan
     * to the freeNumber() as it is then, in the first wave above the wave count that has fewer than PER plans ...
     * Returns how many moves were planned."
     */
    private static void settle() {
        NetMerge x = Check.made("nets per 2 pool 90 99;host a 0 9;host b 1 9;host c 0 3;host d 1 3 pinned;host e 0 4 pinned;"
                + "host f 1 4 pinned;host g 0 6;host h 1 6;host i 0 7;host j 1 8;host k 0 91;move h 50 9;move j 7 1;");
        x.wave();
        Check.due("P27 3, 4, 6, 7 and 9", x.size(9), 5);
        Check.due("P27 two moves for 3 and 7, one for 9", x.settle(), 3);
        Check.due("P27 c, as d is pinned", Check.host(x, 2), "0 3 0 0 90 2 0");
        Check.due("P27 nobody for 4", x.host(4, 4) + x.host(5, 4), 0);
        Check.due("P27 h has a plan", Check.host(x, 7), "1 6 0 0 50 9 0");
        Check.due("P27 g is not chosen instead", x.host(6, 4), 0);
        Check.due("P27 j has 7 as its number; 91 is held", Check.host(x, 9), "1 7 8 0 92 2 1");
        Check.due("P27 b; wave 2 has PER plans", Check.host(x, 1), "1 9 0 0 93 3 0");
        Check.due("P27 again: nothing is planned", x.settle(), 0);
        NetMerge kept = Check.made("nets;host a 1 9;host b 0 9;move a 8 1;");
        kept.wave();
        Check.due("P27 a keeps 9, b is chosen", kept.settle(), 1);
        Check.due("P27 b", Check.host(kept, 1), "0 9 0 0 200 2 0");
    }

    /** P27: "... once there is no such number or wave, nothing is planned any more." */
    private static void settleEnds() {
        NetMerge x = Check.made("nets pool 90 91;host a 0 1;host b 1 1;host c 0 2;host d 1 2;host e 0 3;host f 1 3;");
        Check.due("P27 two numbers", x.settle(), 2);
        Check.due("P27 for 1 and 2", x.host(1, 4) + " " + x.host(3, 4) + " " + x.host(5, 4), "90 91 0");
        NetMerge y = Check.made("nets per 1;host a 0 1;host b 1 1;host c 0 2;host d 1 2;");
        Check.waves(y, 8);
        Check.due("P27 one wave", y.settle(), 1);
        Check.due("P27 for 1", Check.host(y, 1), "1 1 0 0 200 9 0");
        y.wave();
        Check.due("P27 no wave", y.settle(), 0);
    }

    /**
     * P28: "Operation: the next wave is done. Returns how many hosts moved; -2 if 9 waves were done, -3 if a host
     * would move that keeps an old number, -4 if two hosts of a net would hold the same number."
     */
    private static void wave() {
        NetMerge x = Check.made("nets keep 2;host a 0 5;host b 1 6;host c 0 7;move a 8 1;move b 9 1;");
        Check.due("P28 two moved", x.wave(), 2);
        x.plan(0, 7, 2);
        Check.refused("P28 -3 ahead of -4", x, -3, () -> x.wave());
        x.unplan(0);
        x.plan(2, 5, 2);
        Check.refused("P28 -4", x, -4, () -> x.wave());
        x.unplan(2);
        for (int wave = 2; wave <= 9; wave++) {
            Check.due("P28 nobody moved", x.wave(), 0);
        }
        Check.refused("P28 -2", x, -2, () -> x.wave());
    }

    /**
     * P29: "Operation: goes back from the latest wave (section 2). Returns the wave count then; -2 if it is 0, -3
     * if two hosts of a net would hold the same number."
     */
    private static void back() {
        NetMerge x = Check.made("nets keep 0;host a 0 5;host b 0 6;move a 7 1;move b 5 2;");
        Check.refused("P29 -2", x, -2, () -> x.back());
        Check.waves(x, 2);
        Check.due("P29 the wave count then", x.back(), 1);
        Check.due("P29 the latest wave", x.host(0, 1) + " " + x.host(1, 1), "7 6");
        x.addHost(0, 5);
        Check.refused("P29 -3", x, -3, () -> x.back());
        x.removeHost(2);
        Check.due("P29 the wave count then", x.back(), 0);
        Check.refused("P29 -2 again", x, -2, () -> x.back());
    }

    /** P30: "Operation: opens the bridge. Returns how many hosts there are; -2 if it is open, -3 if there are clashes." */
    private static void open() {
        NetMerge x = Check.made("nets;host a 0 5;host b 1 5;host c 1 7;");
        Check.refused("P30 -3", x, -3, () -> x.open());
        x.removeHost(0);
        Check.due("P30 how many hosts", x.open(), 2);
        Check.due("P30 it is open", x.size(8), 1);
        Check.refused("P30 -2", x, -2, () -> x.open());
    }

    /** P31: "Operation: closes the bridge. Returns how many hosts the office 0 has; -2 if it is closed." */
    private static void close() {
        NetMerge x = Check.made("nets;host a 0 5;host b 1 6;host c 0 7;");
        Check.refused("P31 -2", x, -2, () -> x.close());
        x.open();
        Check.due("P31 hosts of the office 0", x.close(), 2);
        Check.due("P31 it is closed", x.size(8), 0);
        Check.refused("P31 -2 again", x, -2, () -> x.close());
    }

    /**
     * P32: "Operation: a rule comes behind all others. first: 0 to 250. second: 0 to 250. Returns its number; -2 if
     * there are 30. Throws NoSuchElementException if there is no such office (checked first). Throws
     * IllegalArgumentException if first or second is out of range"
     */
    private static void addRule() {
        NetMerge x = Check.made("nets;rule 0 deny 5 6;");
        Check.due("P32 behind all others", x.addRule(1, true, 0, 250), 1);
        Check.due("P32 its sides", Check.sides(x), "5 6 0 250");
        Check.due("P32 its office, it allows", x.rule(1, 0) + x.rule(1, 1), 2);
        Check.refused("P32 checked first", x, NoSuchElementException.class, () -> x.addRule(2, true, -1, 251));
        Check.refused("P32 no office -1", x, NoSuchElementException.class, () -> x.addRule(-1, true, 0, 0));
        int[][] wrong = {{-1, 0}, {251, 0}, {0, -1}, {0, 251}};
        for (int[] each : wrong) {
            Check.refused("P32 " + each[0] + " " + each[1], x, IllegalArgumentException.class, () -> x.addRule(0, false, each[0], each[1]));
        }
        for (int rule = 2; rule < 30; rule++) {
            Check.due("P32 its number", x.addRule(0, false, 250, 0), rule);
        }
        Check.refusedBriefly("P32 there are 30", x, -2, () -> x.addRule(0, false, 0, 0));
        Check.illegal("P32 exceptions first", () -> x.addRule(0, false, 0, 251));
    }

    /**
     * P33: "Operation: a rule goes; those behind it get numbers that are 1 less. Returns how many are left. Throws
     * NoSuchElementException if there is no such rule"
     */
    private static void removeRule() {
        NetMerge x = Check.made("nets;rule 0 deny 1 2;rule 1 allow 3 4;rule 0 allow 5 6;");
        Check.due("P33 how many are left", x.removeRule(0), 2);
        Check.due("P33 1 less", Check.sides(x), "3 4 5 6");
        Check.due("P33 with office and kind", x.rule(0, 0) + " " + x.rule(0, 1) + " " + x.rule(1, 0), "1 1 0");
        for (int wrong : new int[] {-1, 2, MAX, MIN}) {
            Check.refused("P33 rule " + wrong, x, NoSuchElementException.class, () -> x.removeRule(wrong));
        }
    }

    /**
     * P34: "Operation: sets KEEP (for all hosts, also those that moved). keep: 0 to 3. Returns KEEP before; -2 if
     * two hosts of a net would hold the same number then. Throws IllegalArgumentException if keep is out of range"
     */
    private static void setKeep() {
        NetMerge x = Check.made("nets;host a 0 5;host b 1 6;move a 7 1;");
        Check.waves(x, 2);
        Check.due("P34 KEEP before", x.setKeep(3), 1);
        Check.due("P34 also those that moved", Check.formatted(x, 0), "a 7+5");
        Check.due("P34 KEEP before", x.setKeep(0), 3);
        Check.due("P34 also those that moved", Check.formatted(x, 0), "a 7");
        x.addHost(1, 5);
        Check.due("P34 in the other net", x.setKeep(2), 0);
        x.setKeep(1);
        x.addHost(0, 5);
        Check.refused("P34 -2", x, -2, () -> x.setKeep(2));
        for (int wrong : new int[] {-1, 4, MAX, MIN}) {
            Check.refused("P34 keep " + wrong, x, IllegalArgumentException.class, () -> x.setKeep(wrong));
        }
    }

    /**
     * P35: "Operation: pins a host, or lets it go; a host that is pinned loses its plan. Returns 1 if it was
     * pinned, otherwise 0. Throws NoSuchElementException if there is no such host"
     */
    private static void setPinned() {
        NetMerge x = Check.made("nets;host a 0 5;host b 0 6;move a 7 1;move b 8 1;");
        Check.due("P35 it was not", x.setPinned(0, true), 0);
        Check.due("P35 it loses its plan", Check.host(x, 0), "0 5 0 1 0 0 0");
        Check.due("P35 it was", x.setPinned(0, false), 1);
        Check.due("P35 let go, without a plan", Check.host(x, 0), "0 5 0 0 0 0 0");
        Check.due("P35 let go again", x.setPinned(1, false), 0);
        Check.due("P35 the plan of one that is let go", Check.host(x, 1), "0 6 0 0 8 1 0");
        for (int wrong : new int[] {-1, 2, MAX, MIN}) {
            Check.refused("P35 host " + wrong, x, NoSuchElementException.class, () -> x.setPinned(wrong, true));
        }
    }

    /**
     * P36: "Formats a host as text: its name, ' ', its number, '+' and the number that it keeps, if there is one,
     * '!' if it is pinned, and ' > ', the number of its plan, '@' and the wave, if it has one. Numbers have no
     * leading zeros. Returns the number of bytes of the text. Throws NoSuchElementException if there is no such
     * host"
     */
    private static void format() {
        NetMerge x = Check.made("nets keep 3;host abcdefgh 0 100;host b 1 9 pinned;move abcdefgh 205 1;");
        Check.due("P36 bytes", x.format(0), 20);
        Check.due("P36 a plan", Check.lastFormatted(x), "abcdefgh 100 > 205@1");
        Check.due("P36 pinned", Check.formatted(x, 1), "b 9!");
        x.wave();
        x.plan(0, 10, 9);
        Check.due("P36 bytes", x.format(0), 23);
        Check.due("P36 kept, and a plan", Check.lastFormatted(x), "abcdefgh 205+100 > 10@9");
        x.setPinned(0, true);
        Check.due("P36 kept and pinned", Check.formatted(x, 0), "abcdefgh 205+100!");
        x.addHost(0, 1);
        Check.due("P36 without a name", Check.formatted(x, 2), " 1");
        for (int wrong : new int[] {-1, 3, MAX, MIN}) {
            Check.refused("P36 host " + wrong, x, NoSuchElementException.class, () -> x.format(wrong));
        }
    }

    /**
     * P37: "Returns the byte at index of the text of the most recent call of format, as it was then (also behind
     * load, undo and restoreSnapshot); NONE if index is out of range or there was no such call."
     */
    private static void formattedByte() {
        NetMerge x = new NetMerge();
        Check.due("P37 no such call", x.formattedByte(0), -1);
        x.saveSnapshot();
        x.addHost(0, 47);
        x.format(0);
        Check.due("P37 bytes", x.formattedByte(0) + " " + x.formattedByte(1) + " " + x.formattedByte(2), "32 52 55");
        for (int index : new int[] {3, -1, MAX, MIN}) {
            Check.due("P37 index " + index, x.formattedByte(index), -1);
        }
        x.undo();
        Check.due("P37 behind undo", Check.lastFormatted(x), " 47");
        x.restoreSnapshot();
        Check.due("P37 behind restoreSnapshot", Check.lastFormatted(x), " 47");
        Check.load(x, "nets;host b 0 8;");
        Check.due("P37 behind load", Check.lastFormatted(x), " 47");
        x.format(0);
        Check.due("P37 the most recent call", Check.lastFormatted(x), "b 8");
    }

    /** P38: "Returns the number of operations that can be undone." */
    private static void undoCount() {
        NetMerge x = new NetMerge();
        for (int done = 0; done < 14; done++) {
            Check.due("P38 behind " + done, x.undoCount(), done < 10 ? done : 10);
            x.addHost(0, 1 + done);
        }
        x.undo();
        Check.due("P38 one was undone", x.undoCount(), 9);
    }

    /**
     * P39: "Undoes the most recent operation. Returns the number of operations that can still be undone; NONE if
     * there was nothing to undo."
     */
    private static void undo() {
        NetMerge x = new NetMerge();
        Check.due("P39 nothing", x.undo(), -1);
        x.addHost(0, 1);
        x.addHost(1, 2);
        Check.due("P39 one is left", x.undo(), 1);
        Check.due("P39 the most recent one was undone", x.size(0) + x.host(0, 0), 1);
        Check.due("P39 none is left", x.undo(), 0);
        Check.due("P39 nothing any more", x.undo(), -1);
    }

    /** P40: "Saves a snapshot of everything that undoing restores. It replaces an earlier snapshot." */
    private static void saveSnapshot() {
        NetMerge x = Check.made("nets keep 2;host a 0 1;host b 1 1;move a 5 1;rule 0 allow 1 any;");
        x.saveSnapshot();
        x.wave();
        x.plan(1, 9, 4);
        x.setPinned(0, true);
        String second = Check.shown(x);
        x.saveSnapshot();
        x.removeHost(0);
        x.removeRule(0);
        x.open();
        x.setKeep(0);
        x.wave();
        x.restoreSnapshot();
        Check.due("P40 everything; the earlier one was replaced", Check.shown(x), second);
        x.back();
        Check.due("P40 also the way back", Check.host(x, 0), "0 1 0 1 0 0 0");
    }

    /**
     * P41: "Restores the snapshot and clears the undo history. The snapshot is kept. Returns true; false if there
     * is no snapshot (nothing changes)."
     */
    private static void restoreSnapshot() {
        NetMerge x = new NetMerge();
        x.addHost(0, 1);
        Check.refused("P41 no snapshot", x, false, () -> x.restoreSnapshot());
        x.saveSnapshot();
        for (int again = 0; again < 2; again++) {
            x.addHost(0, 2);
            x.wave();
            Check.due("P41 restored", x.restoreSnapshot(), true);
            Check.due("P41 as it was", Check.shown(x), "1 0 0 0 1 3 200 250 0 0 0 |  0 1 0 0 0 0 0");
            Check.due("P41 the history is cleared", x.undoCount(), 0);
        }
    }

    /**
     * P42: "Reads the first bytes of the buffer as a query and evaluates it for every host in ascending order. The
     * buffer is empty afterwards, also after an error. length: number of bytes to read, at most 200. Returns for
     * 'many' the number of hosts for which the test holds; for 'first' the smallest such host, or NONE; HIDDEN
     * minus the error code if the text has an error. Throws IllegalArgumentException if length is negative,
     * greater than 200, or greater than the number of bytes in the buffer (nothing changes)"
     */
    private static void query() {
        NetMerge x = Check.made("nets;host a 0 5;host b 1 6;host c 1 7;");
        Check.due("P42 many", Check.query(x, "many office=1"), 2);
        Check.due("P42 first", Check.query(x, "first office=1"), 1);
        Check.due("P42 none", Check.query(x, "first office=2"), -1);
        Check.due("P42 none of many", Check.query(x, "many office=2"), 0);
        Check.due("P42 code 1", Check.query(x, "all office=2"), -1000000001);
        Check.illegal("P42 empty, also after an error", () -> x.query(1));
        Check.due("P42 code 2", Check.query(x, "many office=10000"), -1000000002);
        Check.due("P42 code 3", Check.query(x, "many ((((((("), -1000000003);
        Check.feed(x, "many 1=1 rubbish");
        Check.due("P42 the first bytes", x.query(8), 3);
        Check.illegal("P42 empty", () -> x.query(1));
        Check.feed(x, "many host=2 ");
        for (int length : new int[] {-1, 21, 201, MIN, MAX}) {
            Check.refused("P42 length " + length, x, IllegalArgumentException.class, () -> x.query(length));
        }
        Check.due("P42 nothing changed, nor the buffer", x.query(20), 1);
    }
}
