/**
 * "Terms" of the document from the first line to the last: each sentence is quoted in its order, and
 * what it says is looked at once behind it. The edges of the sentences stand in the Edge tests.
 */
public final class SentencesOfTermsTest {
    public static void main(String[] args) {
        offices();
        hostsAtMost();
        bridge();
        noNumberTwice();
        keeping();
        holding();
        clashes();
        plans();
        wavesDone();
        wavesRefused();
        wentBack();
        backRefused();
        rulesAtMost();
        sidesChange();
        sidesChangeOnce();
        sidesMatch();
        deciding();
        tokens();
        grammar();
        quantities();
        codeOne();
        codeTwo();
        codeThree();
        codeFour();
        queryText();
        queryGrammar();
        queryValues();
        queryCodes();
        operations();
        operationsUndone();
        Check.end("SentencesOfTermsTest");
    }

    // ---- 1. Hosts and numbers ----

    /** "There are two offices, 0 and 1." */
    private static void offices() {
        NetMerge x = new NetMerge();
        Check.due("S1 office 0", x.addHost(0, 5), 0);
        Check.due("S1 office 1", x.addHost(1, 5), 1);
        Check.missing("S1 office 2", () -> x.addHost(2, 5));
        Check.missing("S1 office -1", () -> x.addHost(-1, 5));
    }

    /**
     * "There are at most 40 hosts, numbered from 0 in the order in which they came (those behind one that is
     * removed get numbers that are 1 less), each with a name, an office, a number (1 to 250), and perhaps
     * pinned."
     */
    private static void hostsAtMost() {
        NetMerge x = Check.made("nets;host cat 1 250 pinned;host ox 0 1;");
        for (int host = 2; host < 40; host++) {
            Check.due("S1 in the order in which they came", x.addHost(host & 1, 100 + host), host);
        }
        Check.due("S1 at most 40", x.addHost(0, 99), -2);
        Check.due("S1 a name, an office, a number, pinned", Check.formatted(x, 0) + Check.host(x, 0), "cat 250!1 250 0 1 0 0 0");
        Check.due("S1 not pinned", Check.formatted(x, 1) + Check.host(x, 1), "ox 10 1 0 0 0 0 0");
        x.removeHost(0);
        Check.due("S1 1 less", Check.formatted(x, 0), "ox 1");
        Check.due("S1 1 less, the last", x.host(38, 1), 139);
        Check.missing("S1 39 are left", () -> x.host(39, 1));
    }

    /** "The bridge is closed or open: closed, each office is a net; open, both are one net." */
    private static void bridge() {
        NetMerge x = Check.made("nets;host a 0 5;host b 1 6;rule 0 allow any any;");
        Check.due("S1 closed", x.size(8), 0);
        Check.due("S1 nets of their own: a reaches none", x.reach(0), 0);
        Check.due("S1 the rule is not of the net of 1", x.decides(1, 6, 5), -1);
        Check.due("S1 nets of their own: 5 is free in 1", x.addHost(1, 5), 2);
        x.undo();
        x.open();
        Check.due("S1 open", x.size(8), 1);
        Check.due("S1 one net: a reaches b", x.reach(0), 1);
        Check.due("S1 the rule is one of the net of 1", x.decides(1, 6, 5), 0);
        Check.due("S1 one net: 5 is held", x.addHost(1, 5), -3);
    }

    /** "No two hosts of one net ever hold the same number." */
    private static void noNumberTwice() {
        Check.due("S1 not by the text", Check.load(new NetMerge(), "nets;host a 0 5;host b 0 5;"), -13);
        NetMerge x = Check.made("nets keep 2;host a 0 5;host b 0 7;move a 6 1;move b 5 2;");
        Check.due("S1 not by addHost", x.addHost(0, 7), -3);
        x.wave();
        Check.due("S1 not by addHost on a kept number", x.addHost(0, 5), -3);
        Check.due("S1 not by a wave", x.wave(), -4);
        Check.due("S1 by no wave, told ahead", x.whyNot(), -4);
        x.setKeep(1);
        Check.due("S1 once it is not kept any more", x.wave(), 1);
        Check.due("S1 not by setKeep", x.setKeep(2), -2);
        x.removeHost(1);
        x.setKeep(0);
        x.addHost(0, 5);
        x.back();
        Check.due("S1 not by going back", x.back(), -3);
    }

    /**
     * "Waves are done one after the other, 9 at most; the wave count is how many were done. A host that moved
     * in a wave has its new number, and it keeps the number that it had ahead of this (also if both are the
     * same) as long as the wave count is less than that wave plus KEEP (KEEP 0 to 3)."
     */
    private static void keeping() {
        String[] due = {
            "5- 6- 6- 6- 6- 6- 6- 6- 6- 6-", "5- 6+5 6- 6- 6- 6- 6- 6- 6- 6-",
            "5- 6+5 6+5 6- 6- 6- 6- 6- 6- 6-", "5- 6+5 6+5 6+5 6- 6- 6- 6- 6- 6-"};
        for (int keep = 0; keep <= 3; keep++) {
            NetMerge x = Check.made("nets keep " + keep + ";host a 0 5;move a 6 1;");
            StringBuilder got = new StringBuilder();
            for (int done = 0; done <= 9; done++) {
                Check.due("S1 how many were done", x.size(3), done);
                got.append(done == 0 ? "" : " ").append(x.host(0, 1));
                got.append(x.host(0, 2) == 0 ? "-" : "+" + x.host(0, 2));
                Check.due("S1 9 at most", x.wave(), done == 9 ? -2 : done == 0 ? 1 : 0);
            }
            Check.due("S1 KEEP " + keep, got.toString(), due[keep]);
        }
        NetMerge same = Check.made("nets;host a 0 5;move a 5 1;");
        same.wave();
        Check.due("S1 also if both are the same", Check.formatted(same, 0), "a 5+5");
        same.wave();
        Check.due("S1 as long, also if both are the same", Check.formatted(same, 0), "a 5");
    }

    /** "A host holds its number and one that it keeps." */
    private static void holding() {
        NetMerge x = Check.made("nets;host a 0 4;host b 0 5;move b 6 1;");
        x.wave();
        Check.due("S1 its number", x.holder(0, 6), 1);
        Check.due("S1 one that it keeps", x.holder(0, 5), 1);
        x.wave();
        Check.due("S1 its number still", x.holder(0, 6), 1);
        Check.due("S1 none that it kept", x.holder(0, 5), -1);
    }

    /** "A clash is a number that hosts of both offices hold. Open is only a bridge without clashes." */
    private static void clashes() {
        NetMerge x = Check.made("nets;host a 0 5;host b 1 5;host c 0 7;host d 1 8;move a 6 1;move d 7 1;");
        Check.due("S1 a number of both", x.size(9) * 1000 + x.clash(0), 1005);
        Check.due("S1 not with a clash", x.open(), -3);
        x.wave();
        Check.due("S1 also a kept one", x.size(9), 2);
        Check.due("S1 5 is kept by a", x.clash(0), 5);
        Check.due("S1 7 is new to d", x.clash(1), 7);
        x.wave();
        Check.due("S1 kept no longer", x.size(9) * 1000 + x.clash(0), 1007);
        x.removeHost(2);
        Check.due("S1 without clashes", x.open(), 3);
        Check.due("S1 no clash comes into an open bridge", x.addHost(0, 7), -3);
    }

    // ---- 2. Plans and waves ----

    /**
     * "A plan is a move of a host to a number in a wave (above the wave count). A host has one plan at most, a
     * pinned one none; a wave has at most PER plans (PER 1 to 9)."
     */
    private static void plans() {
        NetMerge x = Check.made("nets per 2;host a 0 1;host b 0 2;host c 0 3;host d 0 4 pinned;");
        x.wave();
        Check.due("S2 not above the wave count", x.plan(0, 9, 1), -3);
        Check.due("S2 above the wave count", x.plan(0, 9, 2), 1);
        Check.due("S2 a number and a wave", x.host(0, 4) * 10 + x.host(0, 5), 92);
        Check.due("S2 another plan", x.plan(0, 8, 3), 1);
        Check.due("S2 one at most", x.size(2), 1);
        Check.due("S2 pinned: none", x.plan(3, 9, 2), -2);
        Check.due("S2 two", x.plan(1, 9, 3), 2);
        Check.due("S2 PER is 2", x.plan(2, 10, 3), -4);
        x.setPinned(0, true);
        Check.due("S2 none any more", x.host(0, 4) + x.host(0, 5), 0);
    }

    /**
     * "When a wave is done, the wave count grows by 1; then all hosts that have a plan for it get their new
     * numbers at once, and these plans are gone."
     */
    private static void wavesDone() {
        NetMerge x = Check.made("nets keep 0;host a 0 1;host b 0 2;host c 0 3;move a 2 1;move b 1 1;move c 9 2;");
        Check.due("S2 two moves", x.wave(), 2);
        Check.due("S2 grows by 1", x.size(3), 1);
        Check.due("S2 at once", x.host(0, 1) * 100 + x.host(1, 1) * 10 + x.host(2, 1), 213);
        Check.due("S2 these plans are gone", x.plans(1), 0);
        Check.due("S2 the other one is not", x.plans(2), 1);
    }

    /**
     * "A wave is refused if a host would move that keeps an old number (by the new wave count, ahead of its
     * move), or if two hosts of a net would hold the same number behind the moves."
     */
    private static void wavesRefused() {
        NetMerge x = Check.made("nets keep 2;host a 0 1;host b 0 2;move a 5 1;");
        x.wave();
        x.plan(0, 6, 2);
        Check.due("S2 it still keeps 1 in wave 2", x.wave(), -3);
        x.plan(0, 6, 3);
        x.wave();
        Check.due("S2 it keeps 1 ahead of wave 3", x.host(0, 2), 1);
        Check.due("S2 but not by the new wave count", x.wave(), 1);
        x.plan(1, 6, 4);
        Check.due("S2 the number of a", x.wave(), -4);
        x.plan(1, 5, 4);
        Check.due("S2 the number that a keeps", x.wave(), -4);
        x.plan(1, 1, 4);
        Check.due("S2 the number that a keeps no longer", x.wave(), 1);
    }

    /**
     * "Going back from a wave: the hosts that moved in it, as far as they are still there, are as they were
     * ahead of it, in their numbers and in what they keep; the wave count becomes 1 less; those of them that
     * have no plan and are not pinned have the plan of that move again (to the same number, in that wave,
     * whatever PER is)."
     */
    private static void wentBack() {
        NetMerge x = Check.made("nets keep 1;host a 0 1;host b 0 2;host c 0 3;host d 0 4;move a 5 1;");
        x.wave();
        x.plan(0, 6, 2);
        x.plan(1, 7, 2);
        x.plan(2, 8, 2);
        Check.due("S2 three moves", x.wave(), 3);
        x.plan(1, 9, 5);
        x.setPinned(2, true);
        x.addHost(1, 40);
        Check.due("S2 1 less", x.back(), 1);
        Check.due("S2 as ahead of it, with the plan of that move", Check.host(x, 0), "0 5 1 0 6 2 1");
        Check.due("S2 it has a plan", Check.host(x, 1), "0 2 0 0 9 5 0");
        Check.due("S2 it is pinned", Check.host(x, 2), "0 3 0 1 0 0 0");
        Check.due("S2 it did not move", Check.host(x, 3), "0 4 0 0 0 0 0");
        Check.due("S2 it came later", Check.host(x, 4), "1 40 0 0 0 0 0");
        NetMerge all = Check.made("nets per 3;host o 1 9;host a 0 1;host b 0 2;host c 0 3;move a 5 1;move b 6 1;move c 7 1;");
        all.wave();
        all.removeHost(0);
        all.back();
        Check.due("S2 all three have their plans again", all.plans(1), 3);
        Check.due("S2 a, that is host 0 now", Check.host(all, 0), "0 1 0 0 5 1 0");
        Check.due("S2 c, that is host 2 now", Check.host(all, 2), "0 3 0 0 7 1 0");
        NetMerge y = Check.made("nets per 1;host a 0 1;host b 0 2;move b 7 1;");
        y.wave();
        y.removeHost(1);
        Check.due("S2 not there any more", y.back(), 0);
        Check.due("S2 nobody went back", y.size(2) + y.host(0, 6), 0);
    }

    /** "It is refused if two hosts of a net would hold the same number then." */
    private static void backRefused() {
        NetMerge x = Check.made("nets keep 0;host a 0 1;move a 5 1;");
        x.wave();
        x.addHost(1, 1);
        Check.due("S2 in the other net", x.back(), 0);
        x.wave();
        x.addHost(0, 1);
        Check.due("S2 in its net", x.back(), -3);
        x.removeHost(2);
        x.open();
        Check.due("S2 in the one net", x.back(), -3);
    }

    // ---- 3. Rules ----

    /**
     * "There are at most 30 rules, numbered from 0, each of an office: it allows or denies what goes from a
     * side to a side. A side is 0 (any) or a number (1 to 250)."
     */
    private static void rulesAtMost() {
        NetMerge x = new NetMerge();
        for (int rule = 0; rule < 30; rule++) {
            Check.due("S3 numbered from 0", x.addRule(rule & 1, rule > 20, rule == 0 ? 0 : 221 + rule, 30 - rule), rule);
        }
        Check.due("S3 at most 30", x.addRule(0, true, 0, 0), -2);
        Check.due("S3 office, denies, from, to", x.rule(0, 0) + " " + x.rule(0, 1) + " " + x.rule(0, 2) + " " + x.rule(0, 3), "0 0 0 30");
        Check.due("S3 the last", x.rule(29, 0) + " " + x.rule(29, 1) + " " + x.rule(29, 2) + " " + x.rule(29, 3), "1 1 250 1");
        Check.illegal("S3 no side", () -> x.addRule(0, true, 251, 0));
        Check.illegal("S3 no side", () -> x.addRule(0, true, 0, -1));
        NetMerge y = Check.made("nets;rule 0 allow 5 6;");
        Check.due("S3 from a side to a side", y.allows(0, 5, 6), true);
        Check.due("S3 not the other way", y.allows(0, 6, 5), false);
    }

    /**
     * "When a host moves from a number to another one, each side of the rules of its net (of its office, or of
     * all if the bridge is open) that names the old number names the new one then; going back, each side of the
     * rules of its net as it is then that names the new number names the old one (the moves of hosts that were
     * removed change no sides)."
     */
    private static void sidesChange() {
        String text = "nets keep 0;host a 0 5;host b 1 7;move a 6 1;rule 0 allow 5 5;rule 1 deny 5 7;rule 0 allow any 6;";
        NetMerge closed = Check.made(text);
        closed.wave();
        Check.due("S3 of its office", Check.sides(closed), "6 6 5 7 0 6");
        closed.back();
        Check.due("S3 going back, also the one that named it before", Check.sides(closed), "5 5 5 7 0 5");
        NetMerge open = Check.made(text);
        open.open();
        open.wave();
        Check.due("S3 of all", Check.sides(open), "6 6 6 7 0 6");
        open.close();
        open.back();
        Check.due("S3 its net as it is then", Check.sides(open), "5 5 6 7 0 5");
        NetMerge other = Check.made(text);
        other.wave();
        other.open();
        other.addRule(1, true, 6, 0);
        other.back();
        Check.due("S3 its net is open then", Check.sides(other), "5 5 5 7 0 5 5 0");
        NetMerge removed = Check.made(text);
        removed.wave();
        removed.removeHost(0);
        removed.back();
        Check.due("S3 it was removed", Check.sides(removed), "6 6 5 7 0 6");
    }

    /**
     * "With several moves at once, each side is changed by one of them at most (by the move of the host whose
     * number it named ahead of the wave)."
     */
    private static void sidesChangeOnce() {
        NetMerge x = Check.made("nets keep 0;host a 0 1;host b 0 2;host c 0 3;move a 2 1;move b 3 1;move c 1 1;"
                + "rule 0 allow 1 2;rule 0 deny 3 1;");
        Check.due("S3 four sides", x.rewrites(), 4);
        x.wave();
        Check.due("S3 each once", Check.sides(x), "2 3 1 2");
        x.back();
        Check.due("S3 each once, back", Check.sides(x), "1 2 3 1");
    }

    /**
     * "A side matches a number in a net if it is any, if it is this number, or if a host of that net holds
     * both."
     */
    private static void sidesMatch() {
        NetMerge x = Check.made("nets;host a 0 5;host b 1 9;move a 6 1;rule 0 allow 50 any;rule 0 allow 60 5;rule 1 allow 70 5;"
                + "rule 0 allow 5 80;");
        Check.due("S3 any", x.decides(0, 50, 123), 0);
        Check.due("S3 this number", x.decides(0, 60, 5), 1);
        Check.due("S3 6 is not held yet", x.decides(0, 60, 6), -1);
        x.wave();
        Check.due("S3 the new number", x.decides(0, 60, 6), 1);
        Check.due("S3 the kept one is held by the same host", x.decides(0, 60, 5), 1);
        Check.due("S3 on the first side, too", x.decides(0, 5, 80), 3);
        Check.due("S3 no host of the net of 1 holds both", x.decides(1, 70, 6), -1);
        x.open();
        Check.due("S3 a host of the one net holds both", x.decides(1, 70, 6), 2);
        x.wave();
        Check.due("S3 it holds 6 alone", x.decides(0, 60, 5), -1);
    }

    /**
     * "What goes from a number to a number in a net is decided by the first rule of the net (by number; all
     * rules if the bridge is open) of which both sides match; it is denied without such a rule."
     */
    private static void deciding() {
        NetMerge x = Check.made("nets;rule 1 deny 5 any;rule 0 allow 5 any;rule 0 deny any any;rule 1 allow any 6;");
        Check.due("S3 the first of the net of 0", x.decides(0, 5, 6), 1);
        Check.due("S3 allowed", x.allows(0, 5, 6), true);
        Check.due("S3 both sides", x.decides(0, 6, 5), 2);
        Check.due("S3 denied by a rule", x.allows(0, 6, 5), false);
        Check.due("S3 the first of the net of 1", x.decides(1, 5, 6), 0);
        Check.due("S3 another of the net of 1", x.decides(1, 7, 6), 3);
        Check.due("S3 none", x.decides(1, 7, 8), -1);
        Check.due("S3 denied without a rule", x.allows(1, 7, 8), false);
        x.open();
        Check.due("S3 all rules", x.decides(0, 5, 6), 0);
        Check.due("S3 all rules, by number", x.decides(1, 7, 6), 2);
    }

    // ---- 4. Input text ----

    /**
     * "The text comes from a byte buffer. Tokens: a word is a maximal run of the letters a to z; a number is a
     * maximal run of digits (leading zeros are allowed); ; is a token. The bytes 32 and 10 separate tokens and
     * are otherwise ignored. Every other byte is an invalid token."
     */
    private static void tokens() {
        NetMerge x = Check.made("nets;");
        Check.due("S4 words and numbers need no space", Check.load(x, "nets keep002per 0009;host\nabc 0 0000000000000000005pinned;"), 1);
        Check.due("S4 leading zeros", x.size(4) * 1000 + x.size(5) * 100 + x.host(0, 1), 2905);
        Check.due("S4 maximal", Check.formatted(x, 0), "abc 5!");
        Check.due("S4 ignored", Check.load(x, "\n \n nets\n\n;\n "), 0);
        Check.due("S4 separated", Check.load(x, "ne ts;"), -11);
        Check.due("S4 separated, at", x.errorPosition(), 0);
        String invalid = "\0\t\r!,-.:ANZ[`{~\u0080\u00a0\u00e4\u00ff()<=>";
        for (int i = 0; i < invalid.length(); i++) {
            Check.due("S4 byte " + (int) invalid.charAt(i), Check.load(x, "nets " + invalid.charAt(i) + ";"), -11);
            Check.due("S4 byte " + (int) invalid.charAt(i) + " at", x.errorPosition(), 5);
        }
    }

    /**
     * "Grammar (quoted = literal, * = any number of times, brackets = optional, | = or; the ranges of numbers
     * are those of the quantities): text: 'nets' ['keep' KEEP] ['per' PER] ['pool' from to] ';' (clause ';')*
     * clause: 'host' NAME office number ['pinned'] | 'rule' office ('allow' | 'deny') side side | 'move' HOST
     * number wave side: 'any' | number"
     */
    private static void grammar() {
        NetMerge x = new NetMerge();
        Check.due("S4 nothing else", Check.load(x, "nets;"), 0);
        Check.due("S4 all of it", Check.load(x, "nets keep 3 per 9 pool 7 8;host a 1 2 pinned;rule 1 deny any 9;"
                + "host b 0 250;move b 1 9;rule 0 allow 250 any;"), 2);
        Check.due("S4 keep, per, pool", x.size(4) + " " + x.size(5) + " " + x.size(6) + " " + x.size(7), "3 9 7 8");
        Check.due("S4 a", Check.host(x, 0), "1 2 0 1 0 0 0");
        Check.due("S4 b", Check.host(x, 1), "0 250 0 0 1 9 0");
        Check.due("S4 sides", Check.sides(x), "0 9 250 0");
        Check.due("S4 allow, deny", x.rule(0, 1) + " " + x.rule(1, 1), "0 1");
        String[] options = {"keep 0", "per 1", "pool 250 250", "keep 0 per 1", "keep 0 pool 1 1", "per 9 pool 1 2"};
        for (String option : options) {
            Check.due("S4 " + option, Check.load(x, "nets " + option + ";"), 0);
        }
        Check.due("S4 in their order", Check.load(x, "nets per 1 keep 0;"), -11);
        Check.due("S4 in their order", Check.load(x, "nets pool 1 2 per 1;"), -11);
        Check.due("S4 once", Check.load(x, "nets keep 1 keep 1;"), -11);
        Check.due("S4 a clause ends with ;", Check.load(x, "nets;host a 0 1"), -11);
        Check.due("S4 no empty clause", Check.load(x, "nets;;"), -11);
    }

    /**
     * "A NAME is any word of at most 8 letters; a HOST is one that a host has (any other word is none). KEEP is
     * 1, PER is 3, the pool is from 200 to 250 without them; from and to are 1 to 250, to is not less than from.
     * A wave is 1 to 9. The bridge is closed."
     */
    private static void quantities() {
        NetMerge x = Check.made("nets;host host 0 1;host move 1 2;host abcdefgh 1 3;move move 4 1;move host 5 9;");
        Check.due("S4 any word", Check.formatted(x, 0) + "," + Check.formatted(x, 1), "host 1 > 5@9,move 2 > 4@1");
        Check.due("S4 of 8 letters", Check.formatted(x, 2), "abcdefgh 3");
        Check.due("S4 without them", x.size(4) + " " + x.size(5) + " " + x.size(6) + " " + x.size(7), "1 3 200 250");
        Check.due("S4 closed", x.size(8), 0);
        x.removeHost(1);
        x.open();
        Check.due("S4 the bridge was opened", x.size(8), 1);
        Check.load(x, "nets pool 1 250;");
        Check.due("S4 closed again", x.size(8), 0);
        Check.due("S4 from 1 to 250", x.size(6) + " " + x.size(7), "1 250");
        Check.due("S4 to is less than from", Check.load(x, "nets pool 9 8;"), -12);
        Check.due("S4 wave 10", Check.load(x, "nets;host a 0 1;move a 2 10;"), -12);
    }

    private static void wrong(String text, int code, int position) {
        NetMerge x = Check.made("nets keep 3;host z 1 77;");
        Check.due("S4 code of \"" + text + "\"", Check.load(x, text), -10 - code);
        Check.due("S4 place in \"" + text + "\"", x.errorPosition(), position);
        Check.due("S4 what stood before \"" + text + "\"", x.size(4) + Check.formatted(x, 0), "3z 77");
    }

    /**
     * "Error codes. The first error along the text is reported, at the first byte of its token; if several
     * codes apply to one token, the smallest one. 1 The token is invalid or not allowed here, or the text ends
     * too early (the position is then the length of the text)."
     */
    private static void codeOne() {
        wrong("nets;host a 0 1;hosts b 0 0;", 1, 16);
        wrong("nets keep 9;?", 2, 10);
        wrong("nets  ?;", 1, 6);
        wrong("nets;rule 0 allow 5 ", 1, 20);
        wrong("nets", 1, 4);
        wrong("", 1, 0);
        wrong("nets;host a 0 1 pinnedd;", 1, 16);
        wrong("nets;move 7 1 1;", 1, 10);
        wrong("nets;host 99999 0 1;", 1, 10);
        wrong("nets 999;", 1, 5);
    }

    /** "2 A number that is out of range; a NAME of more than 8 letters." */
    private static void codeTwo() {
        wrong("nets keep 4;", 2, 10);
        wrong("nets per 0;", 2, 9);
        wrong("nets pool 251 1;", 2, 10);
        wrong("nets;host abcdefghi 0 1;", 2, 10);
        wrong("nets;host a 2 1;", 2, 12);
        wrong("nets;host a 0 0;", 2, 14);
        wrong("nets;rule 2 allow any any;", 2, 10);
        wrong("nets;rule 0 allow 251 any;", 2, 18);
        wrong("nets;rule 0 allow any 0;", 2, 22);
        wrong("nets;host a 0 1;move a 4294967297 1;", 2, 23);
        wrong("nets;host a 0 1;move a 1 0;", 2, 25);
    }

    /**
     * "3 The keyword of the 41st host or of the 31st rule; a NAME that a host has; the number of a host that
     * another host of its office has."
     */
    private static void codeThree() {
        StringBuilder hosts = new StringBuilder("nets;");
        for (int i = 0; i < 40; i++) {
            hosts.append("host ").append((char) ('a' + i % 26)).append(i < 26 ? "" : "z").append(" 0 ").append(i + 1).append(';');
        }
        Check.due("S4 40 hosts", Check.load(new NetMerge(), hosts.toString()), 40);
        wrong(hosts + "host a", 3, hosts.length());
        StringBuilder rules = new StringBuilder("nets;");
        for (int i = 0; i < 30; i++) {
            rules.append("rule 0 deny any ").append(i + 1).append(';');
        }
        Check.due("S4 30 rules", Check.load(new NetMerge(), rules.toString()), 0);
        wrong(rules + "rule 7", 3, rules.length());
        wrong("nets;host a 0 1;host a 1 2;", 3, 21);
        wrong("nets;host a 0 1;host b 0 1;", 3, 25);
        Check.due("S4 of the other office", Check.load(new NetMerge(), "nets;host a 0 1;host b 1 1;"), 2);
    }

    /** "4 A HOST that is none, is pinned or has a plan; the number of a wave that has PER plans." */
    private static void codeFour() {
        wrong("nets;host a 0 1;move b 2 1;", 4, 21);
        wrong("nets;host a 0 1;move abcdefghi 2 1;", 4, 21);
        wrong("nets;host a 0 1 pinned;move a 2 1;", 4, 28);
        wrong("nets;host a 0 1;move a 2 1;move a 3 2;", 4, 32);
        wrong("nets per 1;host a 0 1;host b 0 2;move a 3 1;move b 4 1;", 4, 53);
    }

    // ---- 5. Queries ----

    private static void query(NetMerge x, String text, int due) {
        Check.due("S5 " + text, Check.query(x, text), due);
    }

    /**
     * "The text of a query has at most 200 bytes and the tokens of section 4; each of the bytes ( ) &lt; = &gt;
     * is a token, too."
     */
    private static void queryText() {
        NetMerge x = Check.made("nets;host a 0 5;host b 1 6;");
        StringBuilder text = new StringBuilder("many number=0006");
        while (text.length() < 200) {
            text.append('\n');
        }
        query(x, text.toString(), 1);
        Check.feed(x, text + " ");
        Check.illegal("S5 201 bytes", () -> x.query(201));
        Check.due("S5 200 bytes of them", x.query(200), 1);
        query(x, "many(number<6)or(number>5)", 2);
        query(x, "many number>=5", -1000000001);
        Check.due("S5 > and = are two tokens", x.errorPosition(), 12);
    }

    /**
     * "query: ('many' | 'first') test test: conjunction ('or' conjunction)* conjunction: factor ('and' factor)*
     * factor: 'not' factor | '(' test ')' | value ('&lt;' | '=' | '&gt;') value"
     */
    private static void queryGrammar() {
        NetMerge x = Check.made("nets;host a 0 5;host b 1 6;host c 1 7;");
        query(x, "many 1=1", 3);
        query(x, "first number>5", 1);
        query(x, "first 1=2", -1);
        query(x, "many host=0 or host=1 and 1=2", 1);
        query(x, "many (host=0 or host=1) and 1=2", 0);
        query(x, "many host=0 or host=1 or host=2", 3);
        query(x, "many not host=0 and host<2", 1);
        query(x, "many not (host=0 and host<2)", 2);
        query(x, "many not not host=0", 1);
        query(x, "many 5=number", 1);
        query(x, "1=1", -1000000001);
        query(x, "many", -1000000001);
        query(x, "many host", -1000000001);
        query(x, "many host=0 host=1", -1000000001);
        query(x, "many host=0 and", -1000000001);
        query(x, "many (host=0", -1000000001);
        query(x, "many host=0)", -1000000001);
        query(x, "many 1=1;", -1000000001);
    }

    /**
     * "value: a number (0 to 9999), or one of these properties of a host: 'host' (its number as a host),
     * 'office', 'number', 'old' (the number that it keeps, 0 without one), 'pinned' (1 or 0), 'planned' (the
     * number of its plan, 0 without one), 'wave' (of its plan, 0 without one), 'clash' (1 if one of the numbers
     * that it holds is a clash, otherwise 0), 'reach' (as reach)"
     */
    private static void queryValues() {
        NetMerge x = Check.made("nets;host a 0 5;host b 1 5 pinned;host c 0 8;host d 0 9;move a 6 1;move d 11 4;rule 0 allow 5 any;");
        x.wave();
        query(x, "many 0<9999", 4);
        query(x, "first host=3", 3);
        query(x, "first office=1", 1);
        query(x, "first number=8", 2);
        query(x, "first old=5", 0);
        query(x, "many old=0", 3);
        query(x, "first pinned=1", 1);
        query(x, "many pinned=0", 3);
        query(x, "first planned=11", 3);
        query(x, "many planned=0", 3);
        query(x, "first wave=4", 3);
        query(x, "many wave=0", 3);
        query(x, "many clash=1", 2);
        query(x, "first clash=0", 2);
        query(x, "first reach=2", 0);
        query(x, "many reach=0", 3);
    }

    /**
     * "Error codes are 1 and 2 of section 4, and 3 for a 'not' or '(' that would be the seventh one open at the
     * same time. A 'not' is open until the end of its factor."
     */
    private static void queryCodes() {
        NetMerge x = Check.made("nets;host a 0 5;");
        query(x, "many 1=?", -1000000001);
        query(x, "many 1=10000", -1000000002);
        Check.due("S5 at", x.errorPosition(), 7);
        query(x, "many (((((( 1=1 ))))))", 1);
        query(x, "many ((((((( 1=1 )))))))", -1000000003);
        Check.due("S5 at the seventh", x.errorPosition(), 11);
        query(x, "many not not not not not not 1=1", 1);
        query(x, "many not(not(not(not 1=1 ", -1000000003);
        Check.due("S5 at the seventh, a not", x.errorPosition(), 17);
        query(x, "many not not not not not not 1=1 and not not not not not not 1=1", 1);
        query(x, "many not not not not not(1=1) and not not not not not(not 1=1)", -1000000003);
    }

    // ---- 6. Operations ----

    /**
     * "addHost, removeHost, plan, unplan, settle, wave, back, open, close, addRule, removeRule, setKeep and
     * setPinned are operations. Every successful call is recorded, even if it changes nothing; a call that
     * returns a negative error code or throws an exception changes nothing; error codes are checked behind the
     * exceptions, in the order in which they are listed."
     */
    private static void operations() {
        NetMerge x = new NetMerge();
        recorded(x, 1, "addHost", x.addHost(0, 5));
        recorded(x, 2, "plan", x.plan(0, 6, 2));
        recorded(x, 3, "unplan", x.unplan(0));
        recorded(x, 4, "unplan of nothing", x.unplan(0));
        recorded(x, 5, "settle of nothing", x.settle());
        recorded(x, 6, "wave of nothing", x.wave());
        recorded(x, 7, "back", x.back());
        recorded(x, 8, "open", x.open());
        recorded(x, 9, "close", x.close());
        recorded(x, 10, "addRule", x.addRule(0, true, 0, 0));
        x.saveSnapshot();
        x.restoreSnapshot();
        Check.due("S6 neither is an operation", x.undoCount(), 0);
        recorded(x, 1, "removeRule", x.removeRule(0));
        recorded(x, 2, "setKeep to what it is", x.setKeep(1));
        recorded(x, 3, "setPinned", x.setPinned(0, true));
        recorded(x, 4, "setPinned as it is", x.setPinned(0, true));
        Check.refused("S6 refused by a code", x, -2, () -> x.plan(0, 6, 2));
        Check.illegal("S6 exceptions first", () -> x.plan(0, 0, 2));
        Check.due("S6 not recorded", x.undoCount(), 4);
        recorded(x, 5, "removeHost", x.removeHost(0));
        NetMerge y = Check.made("nets per 1;host a 0 1 pinned;host b 0 2;host c 0 3;move c 9 2;");
        y.wave();
        Check.due("S6 -2 ahead of -3 and -4", y.plan(0, 5, 1), -2);
        Check.due("S6 -3 ahead of -4", y.plan(1, 5, 1), -3);
        Check.due("S6 -4", y.plan(1, 5, 2), -4);
    }

    private static void recorded(NetMerge x, int count, String what, int answer) {
        Check.due("S6 " + what + " succeeds", answer >= 0, true);
        Check.due("S6 " + what + " is recorded", x.undoCount(), count);
    }

    /**
     * "The 10 most recent operations can be undone, the most recent one first. Undoing restores everything that
     * the operation changed, but not the buffer, the error position and the text of format."
     */
    private static void operationsUndone() {
        NetMerge x = Check.made("nets keep 0;host a 0 1;host b 1 1;move a 2 1;rule 0 allow 1 any;");
        String[] stood = new String[12];
        for (int done = 0; done < 11; done++) {
            stood[done] = Check.shown(x);
            operation(x, done);
        }
        Check.due("S6 the 10 most recent ones", x.undoCount(), 10);
        Check.query(x, "many ?");
        x.format(0);
        Check.feed(x, "many 1=1            ");
        for (int left = 9; left >= 0; left--) {
            Check.due("S6 undone", x.undo(), left);
            Check.due("S6 everything is restored", Check.shown(x), stood[left + 1]);
        }
        Check.due("S6 not the eleventh", x.undo(), -1);
        Check.due("S6 not the error position", x.errorPosition(), 5);
        Check.due("S6 not the text of format", Check.lastFormatted(x), "a 2+1!");
        Check.due("S6 not the buffer", x.query(20), 3);
    }

    private static void operation(NetMerge x, int which) {
        switch (which) {
            case 0: x.addHost(0, 60); break;
            case 1: x.wave(); break;
            case 2: x.plan(2, 61, 2); break;
            case 3: x.open(); break;
            case 4: x.wave(); break;
            case 5: x.close(); break;
            case 6: x.back(); break;
            case 7: x.setKeep(2); break;
            case 8: x.removeHost(1); break;
            case 9: x.addRule(1, false, 7, 8); break;
            default: x.setPinned(0, true); break;
        }
    }
}
