import java.util.ArrayList;
import java.util.List;
import java.util.Random;

/** HUNGRY, CARRIED and LACK of small marches, by trying each way to bake and to carry, ration by ration. */
public final class BruteTest {
    private static final Check CHECK = new Check("brute");
    private static final int RUNS = 3000;

    private final FieldOvens x = new FieldOvens();
    private final List<int[]> ovens = new ArrayList<>();
    private final List<Integer> mouths = new ArrayList<>();
    private int[] flour;
    private int way;
    private int best;

    public static void main(String[] args) {
        Random chance = new Random(42);
        for (int run = 0; run < RUNS; run++) new BruteTest().play(run, chance);
        CHECK.end();
    }

    private void play(int run, Random chance) {
        StringBuilder land = new StringBuilder();
        int places = 2 + chance.nextInt(2);
        for (int p = 0; p < places; p++) {
            land.append(p == 0 ? "" : ",").append(chance.nextInt(4)).append(chance.nextInt(5) == 0 ? "" : "w");
        }
        land.append(";b").append(1 + chance.nextInt(2)).append('d').append(chance.nextInt(4) / 3);
        land.append('k').append(1 + chance.nextInt(3)).append('r').append(chance.nextInt(3));
        StringBuilder march = new StringBuilder("1:");
        int days = 2 + chance.nextInt(4);
        for (int d = 0; d < days; d++) march.append("fffsb".charAt(chance.nextInt(5)));
        StringBuilder told = new StringBuilder();
        int stands = 1 + chance.nextInt(3);
        for (int i = 0; i < stands; i++) {
            int from = chance.nextInt(3);
            told.append(i == 0 ? "" : ",").append(chance.nextInt(places)).append('d').append(from);
            told.append('-').append(from + chance.nextInt(3));
        }
        Check.land(x, land.toString());
        Check.march(x, march.toString());
        Check.told(x, told.toString());
        String name = "run " + run + " " + land + " " + march + " " + told;
        int all = leastUpTo(days);
        CHECK.due(name + " hungry", x.hungry(0, 0, way), all / 1000);
        CHECK.due(name + " carried", x.carried(0, 0, way), all % 1000);
        int lack = FieldOvens.NONE;
        for (int d = days - 1; d >= 0; d--) if (leastUpTo(d + 1) / 1000 > x.landTold(4)) lack = d;
        CHECK.due(name + " lack", x.lack(0, 0, way), lack);
    }

    /** A thousand for each hundred who do not eat on the first days, one for each place carried. */
    private int leastUpTo(int days) {
        ovens.clear();
        mouths.clear();
        flour = new int[x.count(0)];
        for (int p = 0; p < flour.length; p++) {
            flour[p] = x.place(p, 0);
            for (int t = 0; t < days; t++) {
                int most = x.bakes(0, 0, p, t);
                if (most > 0) ovens.add(new int[] {p, t, most});
            }
        }
        for (int day = 0; day < days; day++) {
            for (int i = 0; i < x.marchTold(0, 10 + day); i++) mouths.add(day);
        }
        best = Integer.MAX_VALUE;
        tryMouth(0, 0);
        return best;
    }

    private void tryMouth(int i, int cost) {
        if (cost >= best) return;
        if (i == mouths.size()) {
            best = cost;
            return;
        }
        int day = mouths.get(i), here = x.at(0, way, day);
        for (int[] oven : ovens) {
            int p = oven[0], t = oven[1], distance = Math.abs(here - p);
            if (oven[2] == 0 || day - t < distance || day - t > x.landTold(3)) continue;
            oven[2]--;
            if (flour[p] > 0) {
                flour[p]--;
                tryMouth(i + 1, cost + distance);
                flour[p]++;
            }
            if (p > 0 && t >= p && flour[0] > 0) {
                flour[0]--;
                tryMouth(i + 1, cost + distance + p);
                flour[0]++;
            }
            oven[2]++;
        }
        tryMouth(i + 1, cost + 1000);
    }
}
