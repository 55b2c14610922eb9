/** All promises with as many hosts, rules, plans and waves as there may be: no call throws by itself. */
public final class FullTest {
    public static void main(String[] args) {
        NetMerge x = new NetMerge();
        Check.load(x, "nets keep 0 per 9 pool 1 250;");
        for (int host = 0; host < 40; host++) {
            Check.due("P23 host " + host, x.addHost(host / 20, 231 + host % 20), host);
        }
        for (int rule = 0; rule < 30; rule++) {
            Check.due("P32 rule " + rule, x.addRule(rule % 2, rule % 3 != 0, 231 + rule % 20, rule % 4 == 0 ? 0 : 250 - rule % 20), rule);
        }
        Check.due("P5 clashes", x.size(9), 20);
        Check.due("P9 the last clash", x.clash(19), 250);
        Check.due("P27 all clashes are planned for", x.settle(), 20);
        Check.due("P10 full waves", x.plans(1) * 100 + x.plans(2) * 10 + x.plans(3), 992);
        Check.due("P15 the next free number", x.freeNumber(), 21);
        Check.due("P20 behind three waves", x.openIn(), 3);
        Check.due("P19 in nine", x.clashesIn(9), 0);
        Check.due("P17 no conflict", x.conflict(), -1);
        asked(x, "many clash = 1", 40);
        asked(x, "many planned > 0 and wave < 3", 18);
        asked(x, "first wave = 3", 38);
        for (int wave = 1; wave <= 9; wave++) {
            int rewrites = x.rewrites();
            Check.due("P18 wave " + wave + " rewrites sides", rewrites > 0, wave <= 3);
            Check.due("P28 wave " + wave, x.wave(), wave < 3 ? 9 : wave == 3 ? 2 : 0);
        }
        Check.due("P28 no tenth wave", x.wave(), -2);
        Check.due("P21 half of them moved", x.movedShare(), 0.5f);
        Check.due("P34 keep", x.setKeep(3), 0);
        Check.due("P30 all of them", x.open(), 40);
        Check.due("P22 when open", x.meanReach() > 0, true);
        asked(x, "many reach < 40 and old = 0", 40);
        Check.due("P12 no rule of them", x.decides(1, 100, 101), -1);
        Check.due("P31 those of office 0", x.close(), 20);
        for (int wave = 8; wave >= 0; wave--) {
            Check.due("P29 back to " + wave, x.back(), wave);
        }
        Check.due("P29 the plans are back", x.size(2), 20);
        Check.due("P23 no room for a host", x.addHost(0, 1), -2);
        Check.due("P32 no room for a rule", x.addRule(0, true, 1, 1), -2);
        Check.due("P36 the last one", Check.formatted(x, 39), " 250 > 20@3");
        Check.due("P14 the last one", x.reach(39) >= 0, true);
        Check.due("P8 the last one", x.holder(1, 250), 39);
        Check.due("P24 the last one", x.removeHost(39), 39);
        Check.due("P33 the last one", x.removeRule(29), 29);
        for (int left = 9; left >= 0; left--) {
            Check.due("P39 left", x.undo(), left);
        }
        Check.end("FullTest");
    }

    private static void asked(NetMerge x, String query, int want) {
        Check.due("P42 " + query, Check.query(x, query), want);
    }
}
