/** Promises 5 to 15: what there is. */
public final class StateTest {
    private static final int[] WRONG = {-1, 251, 1000, Integer.MIN_VALUE, Integer.MAX_VALUE};

    public static void main(String[] args) {
        sizes();
        hosts();
        names();
        holders();
        clashes();
        plans();
        rules();
        deciding();
        reaching();
        freeNumbers();
        Check.end("StateTest");
    }

    private static void sizes() {
        NetMerge x = Check.made("nets keep 2 per 4 pool 7 8;host a 0 10;host b 1 10;host c 1 11;"
                + "rule 0 allow any any;rule 1 deny 3 3;move a 12 1;move c 13 3;");
        Check.due("P5 ahead of a wave", sizesOf(x), "3 2 2 0 2 4 7 8 0 1 0 ");
        x.wave();
        Check.due("P5 behind a wave", sizesOf(x), "3 2 1 1 2 4 7 8 0 1 1 ");
        x.plan(1, 20, 2);
        x.wave();
        x.wave();
        Check.due("P5 behind three", sizesOf(x), "3 2 0 3 2 4 7 8 0 0 2 ");
        x.open();
        Check.due("P5 open", x.size(8), 1);
        Check.missing("P5 -1", () -> x.size(-1));
        Check.missing("P5 11", () -> x.size(11));
        Check.missing("P5 greatest", () -> x.size(Integer.MAX_VALUE));
        Check.missing("P5 least", () -> x.size(Integer.MIN_VALUE));
    }

    private static String sizesOf(NetMerge x) {
        StringBuilder all = new StringBuilder();
        for (int what = 0; what <= 10; what++) {
            all.append(x.size(what)).append(' ');
        }
        return all.toString();
    }

    private static void hosts() {
        NetMerge x = Check.made("nets keep 2;host a 0 10;host b 1 10 pinned;move a 12 1;");
        Check.due("P6 ahead", hostOf(x, 0), "0 10 0 0 12 1 0 ");
        Check.due("P6 pinned", hostOf(x, 1), "1 10 0 1 0 0 0 ");
        x.wave();
        Check.due("P6 moved", hostOf(x, 0), "0 12 10 0 0 0 1 ");
        x.wave();
        Check.due("P6 still keeps", hostOf(x, 0), "0 12 10 0 0 0 1 ");
        x.plan(0, 14, 3);
        x.wave();
        Check.due("P6 moved again as it kept nothing any more", hostOf(x, 0), "0 14 12 0 0 0 3 ");
        x.back();
        Check.due("P6 a wave from which it went back", hostOf(x, 0), "0 12 10 0 14 3 1 ");
        x.back();
        x.back();
        Check.due("P6 back from all", hostOf(x, 0), "0 10 0 0 14 3 0 ");
        Check.missing("P6 host -1", () -> x.host(-1, 0));
        Check.missing("P6 host 2", () -> x.host(2, 0));
        Check.missing("P6 what -1", () -> x.host(0, -1));
        Check.missing("P6 what 7", () -> x.host(0, 7));
        Check.missing("P6 no hosts", () -> new NetMerge().host(0, 0));
        keptNumbers();
    }

    private static void keptNumbers() {
        for (int keep = 0; keep <= 3; keep++) {
            NetMerge x = Check.made("nets keep " + keep + ";host a 0 10;move a 12 2;");
            x.wave();
            x.wave();
            for (int done = 2; done <= 9; done++) {
                Check.due("P6 keep " + keep + ", " + done + " waves", x.host(0, 2), done < 2 + keep ? 10 : 0);
                Check.due("P5 keep " + keep + ", " + done + " waves", x.size(10), done < 2 + keep ? 1 : 0);
                x.wave();
            }
        }
        NetMerge same = Check.made("nets;host a 0 10;move a 10 1;");
        Check.due("P28 a move to the same number", same.wave(), 1);
        Check.due("P6 it keeps the same number", hostOf(same, 0), "0 10 10 0 0 0 1 ");
        Check.due("P5 it counts as a keeper", same.size(10), 1);
    }

    private static String hostOf(NetMerge x, int host) {
        StringBuilder all = new StringBuilder();
        for (int what = 0; what <= 6; what++) {
            all.append(x.host(host, what)).append(' ');
        }
        return all.toString();
    }

    private static void names() {
        NetMerge x = Check.made("nets;host abcdefgh 0 10;host z 1 10;");
        x.addHost(0, 11);
        for (int i = 0; i < 8; i++) {
            Check.due("P7 letter " + i, x.name(0, i), 'a' + i);
        }
        Check.due("P7 behind 8 letters", x.name(0, 8), -1);
        Check.due("P7 a short name", x.name(1, 0), (int) 'z');
        Check.due("P7 behind it", x.name(1, 1), -1);
        Check.due("P7 no name", x.name(2, 0), -1);
        Check.due("P7 negative", x.name(0, -1), -1);
        Check.due("P7 least", x.name(0, Integer.MIN_VALUE), -1);
        Check.due("P7 greatest", x.name(0, Integer.MAX_VALUE), -1);
        Check.missing("P7 host 3", () -> x.name(3, 0));
        Check.missing("P7 host -1", () -> x.name(-1, -1));
    }

    private static void holders() {
        NetMerge x = Check.made("nets;host a 0 10;host b 1 10;host c 1 20;move c 30 1;");
        Check.due("P8 office 0", x.holder(0, 10), 0);
        Check.due("P8 office 1", x.holder(1, 10), 1);
        Check.due("P8 none", x.holder(0, 20), -1);
        x.wave();
        Check.due("P8 a new number", x.holder(1, 30), 2);
        Check.due("P8 a kept one", x.holder(1, 20), 2);
        x.wave();
        Check.due("P8 kept no longer", x.holder(1, 20), -1);
        Check.due("P8 least and greatest", x.holder(0, 1) + x.holder(0, 250), -2);
        Check.missing("P8 office -1", () -> x.holder(-1, 10));
        Check.missing("P8 office 2 is looked at first", () -> x.holder(2, 0));
        Check.illegal("P8 number 0", () -> x.holder(0, 0));
        for (int number : WRONG) {
            Check.illegal("P8 number " + number, () -> x.holder(1, number));
        }
        NetMerge y = Check.made("nets;host a 0 10;host b 1 11;");
        y.open();
        Check.due("P8 open: still of an office", y.holder(0, 11), -1);
    }

    private static void clashes() {
        NetMerge x = Check.made("nets;host a 0 10;host b 1 10;host c 1 7;host d 0 7;host e 0 250;host f 1 250;"
                + "move b 20 1;move d 20 2;");
        Check.due("P9 0", x.clash(0), 7);
        Check.due("P9 1", x.clash(1), 10);
        Check.due("P9 2", x.clash(2), 250);
        Check.missing("P9 3", () -> x.clash(3));
        Check.missing("P9 -1", () -> x.clash(-1));
        Check.missing("P9 greatest", () -> x.clash(Integer.MAX_VALUE));
        x.wave();
        Check.due("P9 a kept number is one", x.clash(1), 10);
        x.wave();
        Check.due("P9 a kept and a new one", x.size(9) * 1000000 + x.clash(0) * 1000 + x.clash(1), 3007020);
        Check.due("P9 the last", x.clash(2), 250);
    }

    private static void plans() {
        NetMerge x = Check.made("nets;host a 0 10;host b 1 10;host c 1 7;move a 20 1;move b 20 1;move c 20 9;");
        Check.due("P10 wave 1", x.plans(1), 2);
        Check.due("P10 wave 2", x.plans(2), 0);
        Check.due("P10 wave 9", x.plans(9), 1);
        Check.illegal("P10 wave 0", () -> x.plans(0));
        Check.illegal("P10 wave 10", () -> x.plans(10));
        Check.illegal("P10 least", () -> x.plans(Integer.MIN_VALUE));
        x.wave();
        Check.due("P10 a wave that was done", x.plans(1), 0);
    }

    private static void rules() {
        NetMerge x = Check.made("nets;rule 1 allow any 250;rule 0 deny 7 any;");
        Check.due("P11 rule 0", x.rule(0, 0) + " " + x.rule(0, 1) + " " + x.rule(0, 2) + " " + x.rule(0, 3), "1 1 0 250");
        Check.due("P11 rule 1", x.rule(1, 0) + " " + x.rule(1, 1) + " " + x.rule(1, 2) + " " + x.rule(1, 3), "0 0 7 0");
        Check.missing("P11 rule 2", () -> x.rule(2, 0));
        Check.missing("P11 rule -1", () -> x.rule(-1, 0));
        Check.missing("P11 what 4", () -> x.rule(0, 4));
        Check.missing("P11 what -1", () -> x.rule(0, -1));
    }

    private static void deciding() {
        NetMerge x = Check.made("nets;host a 0 10;host b 0 20;host c 1 30;host d 1 40;"
                + "rule 0 deny 10 20;rule 0 allow 10 any;rule 1 allow any 30;rule 1 deny any any;rule 0 deny 5 6;"
                + "move a 11 1;move d 50 1;");
        decided(x, 0, 10, 20, 0, false);
        decided(x, 0, 10, 21, 1, true);
        decided(x, 0, 20, 10, -1, false);
        decided(x, 0, 5, 6, 4, false);
        decided(x, 0, 6, 5, -1, false);
        decided(x, 1, 10, 20, 3, false);
        decided(x, 1, 1, 30, 2, true);
        decided(x, 1, 30, 30, 2, true);
        x.wave();
        decided(x, 0, 10, 20, 0, false);
        decided(x, 0, 11, 20, 0, false);
        decided(x, 0, 11, 250, 1, true);
        decided(x, 1, 11, 20, 3, false);
        x.addRule(1, true, 40, 1);
        x.removeRule(3);
        decided(x, 1, 40, 1, 4, true);
        decided(x, 1, 50, 1, 4, true);
        decided(x, 0, 50, 1, -1, false);
        x.open();
        decided(x, 0, 50, 1, 4, true);
        decided(x, 1, 10, 20, 0, false);
        decided(x, 1, 20, 30, 2, true);
        x.wave();
        decided(x, 1, 50, 1, -1, false);
        decided(x, 1, 10, 20, -1, false);
        decided(x, 1, 11, 20, 0, false);
        Check.missing("P12 office", () -> x.decides(2, 0, 0));
        Check.missing("P12 office -1", () -> x.decides(-1, 1, 1));
        Check.missing("P13 office", () -> x.allows(2, 0, 0));
        Check.missing("P13 office -1", () -> x.allows(-1, 1, 1));
        Check.illegal("P12 from 0", () -> x.decides(0, 0, 1));
        Check.illegal("P12 to 0", () -> x.decides(0, 1, 0));
        Check.illegal("P13 from 0", () -> x.allows(0, 0, 1));
        Check.illegal("P13 to 0", () -> x.allows(0, 1, 0));
        for (int number : WRONG) {
            Check.illegal("P12 from " + number, () -> x.decides(0, number, 1));
            Check.illegal("P12 to " + number, () -> x.decides(1, 250, number));
            Check.illegal("P13 from " + number, () -> x.allows(0, number, 1));
            Check.illegal("P13 to " + number, () -> x.allows(1, 250, number));
        }
    }

    private static void decided(NetMerge x, int office, int from, int to, int rule, boolean allowed) {
        String what = "decides(" + office + ", " + from + ", " + to + ")";
        Check.due("P12 " + what, x.decides(office, from, to), rule);
        Check.due("P13 " + what, x.allows(office, from, to), allowed);
    }

    private static void reaching() {
        NetMerge x = Check.made("nets;host a 0 10;host b 0 20;host c 1 30;host d 0 40;"
                + "rule 0 allow 10 any;rule 0 deny 40 20;rule 0 allow any 20;rule 1 allow any any;move b 50 1;");
        Check.due("P14 a", x.reach(0), 2);
        Check.due("P14 b does not count itself", x.reach(1), 0);
        Check.due("P14 c is alone", x.reach(2), 0);
        Check.due("P14 d is denied", x.reach(3), 0);
        x.removeRule(1);
        Check.due("P14 d", x.reach(3), 1);
        x.wave();
        Check.due("P14 d behind the move", x.reach(3), 1);
        x.addRule(0, true, 20, 40);
        Check.due("P14 b by the number that it keeps", x.reach(1), 1);
        x.open();
        Check.due("P14 a when open", x.reach(0), 3);
        Check.due("P14 c when open", x.reach(2), 3);
        Check.missing("P14 host 4", () -> x.reach(4));
        Check.missing("P14 host -1", () -> x.reach(-1));
    }

    private static void freeNumbers() {
        Check.due("P15 a new object", new NetMerge().freeNumber(), 200);
        NetMerge x = Check.made("nets pool 10 14;host a 0 10;host b 1 11;host c 1 5;move c 12 9;move a 20 1;");
        Check.due("P15 neither held nor planned", x.freeNumber(), 13);
        x.wave();
        Check.due("P15 a kept number is held", x.freeNumber(), 13);
        x.wave();
        Check.due("P15 it is kept no longer", x.freeNumber(), 10);
        x.unplan(2);
        x.addHost(0, 10);
        Check.due("P15 behind unplan", x.freeNumber(), 12);
        x.addHost(0, 12);
        x.addHost(1, 13);
        Check.due("P15 the last of the pool", x.freeNumber(), 14);
        x.addHost(1, 14);
        Check.due("P15 none", x.freeNumber(), -1);
        NetMerge last = Check.made("nets pool 250 250;");
        Check.due("P15 a pool of one", last.freeNumber(), 250);
        last.addHost(1, 250);
        Check.due("P15 which is held", last.freeNumber(), -1);
    }
}
