import java.util.ArrayList;
import java.util.List;
import java.util.NoSuchElementException;
import java.util.Random;

/**
 * What sections 1, 2 and 3 say of every state, looked at behind each call of runs from seeds that
 * are told. Each object gets fewer than 512 calls.
 */
public final class EdgeAlwaysTest {
    private static final int RUNS = 400;
    private static final int DOINGS = 6;

    private static Random random;
    private static NetMerge x;
    private static int calls;

    public static void main(String[] args) {
        for (int seed = 1; seed <= RUNS; seed++) {
            random = new Random(seed);
            x = new NetMerge();
            int hosts = random.nextInt(3) + 2;
            int span = hosts + random.nextInt(4);
            StringBuilder text = new StringBuilder("nets keep " + random.nextInt(4) + " per " + (1 + random.nextInt(2)) + " pool 1 9;");
            for (int i = 0; i < hosts; i++) {
                text.append("host ").append((char) ('a' + i)).append(' ').append(i % 2).append(' ').append(1 + i / 2).append(';');
            }
            Check.due("P3 the text of seed " + seed, Check.load(x, text.toString()), hosts);
            calls = 10;
            for (int step = 0; calls < 400; step++) {
                for (int i = 0; i < DOINGS; i++) {
                    step(span);
                }
                hold("seed " + seed + ", step " + step);
            }
        }
        Check.end("EdgeAlwaysTest");
    }

    private static void step(int span) {
        calls++;
        int host = random.nextInt(6);
        int number = 1 + random.nextInt(span);
        try {
            switch (random.nextInt(16)) {
                case 0: x.addHost(random.nextInt(2), number); break;
                case 1: x.removeHost(host); break;
                case 2:
                case 3:
                case 4:
                case 5: x.plan(host, number, Math.min(9, x.size(3) + 1 + random.nextInt(2))); break;
                case 6: x.settle(); break;
                case 7:
                case 8:
                case 9: x.wave(); break;
                case 10:
                case 11: x.back(); break;
                case 12: x.open(); break;
                case 13: x.close(); break;
                case 14: x.setKeep(random.nextInt(4)); break;
                default: x.setPinned(host, random.nextBoolean()); break;
            }
        } catch (NoSuchElementException e) {
            // there is no such host, which changes nothing
            calls++;
        }
    }

    private static void hold(String where) {
        int hosts = x.size(0);
        int waves = x.size(3);
        int per = x.size(5);
        boolean open = x.size(8) == 1;
        int[] plans = new int[10];
        List<Integer> held = new ArrayList<>();
        boolean twice = false;
        for (int host = 0; host < hosts; host++) {
            int office = open ? 0 : x.host(host, 0);
            int number = x.host(host, 1);
            int kept = x.host(host, 2);
            int wave = x.host(host, 5);
            int moved = x.host(host, 6);
            twice |= held.contains(office * 1000 + number) || held.contains(office * 1000 + kept);
            held.add(office * 1000 + number);
            if (kept != 0) {
                held.add(office * 1000 + kept);
            }
            plans[wave]++;
            Check.due("P25 a plan is above the wave count, " + where, wave == 0 || wave > waves, true);
            Check.due("P35 a pinned host has no plan, " + where, x.host(host, 3) == 1 && wave != 0, false);
            Check.due("P6 a host kept a number by its latest move, " + where, kept != 0,
                    moved != 0 && waves < moved + x.size(4));
            Check.due("P6 a move was in a wave that was done, " + where, moved <= waves, true);
        }
        Check.due("P28 \"No two hosts of one net ever hold the same number\", " + where, twice, false);
        Check.due("P30 \"Open is only a bridge without clashes\", " + where, open && x.size(9) > 0, false);
        for (int wave = 1; wave <= 9; wave++) {
            Check.due("P25 \"a wave has at most PER plans\", " + where, plans[wave] <= per, true);
        }
        Check.due("P5 the plans, " + where, x.size(2), hosts - plans[0]);
        Check.due("P28 at most 9 waves, " + where, waves >= 0 && waves <= 9, true);
        int could = x.whyNot();
        int two = x.conflict();
        Check.due("P17 and P16 agree, " + where, could == 0 && two != NetMerge.NONE || could == -4 && two == NetMerge.NONE, false);
        calls += 13 + 8 * hosts;
    }
}
