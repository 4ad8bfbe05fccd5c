import java.util.Random;

/** Long runs of calls, right and wrong, on FieldOvens and on SlowOvens: every answer is the same. */
public final class FuzzTest {
    private static final int RUNS = 400;
    private static final Check CHECK = new Check("fuzz");

    private final Random chance;
    private final FieldOvens quick = new FieldOvens();
    private final SlowOvens slow = new SlowOvens();
    private final int run;
    private final int mostPlaces;
    // A rich run has wood and flour nearly everywhere and few wrong numbers.
    private final boolean rich;
    private int calls = 0;

    private FuzzTest(int run) {
        this.run = run;
        chance = new Random(7000 + run);
        // Most runs are of small lands: there SlowOvens is quick and ties are many.
        mostPlaces = run % 8 == 0 ? 8 : 2 + run % 4;
        rich = run % 3 != 0;
    }

    public static void main(String[] args) {
        int runs = args.length > 1 ? Integer.parseInt(args[1]) : RUNS;
        for (int run = 0; run < runs; run++) new FuzzTest(run).play();
        for (int run = 0; run < runs / 4; run++) new FuzzTest(run).playLargeNets();
        CHECK.end();
    }

    private void play() {
        boolean late = chance.nextInt(6) == 0;
        if (!late) {
            goodLand();
            goodMarch();
            goodPlan();
        }
        while (calls < 300) step();
        due("digest()", quick.digest(), slow.digest());
    }

    /** Six ovens that stand from the first day to the last, for a column that wants nearly all their bread. */
    private void playLargeNets() {
        StringBuilder land = new StringBuilder();
        StringBuilder told = new StringBuilder();
        for (int p = 0; p < 8; p++) land.append(p == 0 ? "" : ",").append(30 + upTo(200)).append('w');
        int bakes = 1 + upTo(2);
        land.append(";b").append(bakes).append('d').append(upTo(2)).append('k').append(9 - upTo(upTo(9) == 0 ? 8 : 1));
        int first = upTo(2);
        for (int i = 0; i < 6; i++) told.append(i == 0 ? "" : ",").append(first + i).append("d0-9");
        write(land.toString());
        due("land()", quick.land(), slow.land());
        write(told.toString());
        due("tell()", quick.tell(), slow.tell());
        for (int march = 0; march < 4; march++) {
            write((1 + bakes * (2 + upTo(8))) + ":" + "fs".charAt(upTo(1)) + (2 + upTo(1)) + "f2sb3f");
            due("march()", quick.march(), slow.march());
            due("ahead of " + land + " " + told, quick.ahead(0, march), slow.ahead(0, march));
        }
        due("digest()", quick.digest(), slow.digest());
    }

    private void due(String call, long got, long want) {
        calls++;
        CHECK.due("run " + run + " call " + calls + ": " + call, got, want);
    }

    private int upTo(int most) {
        return chance.nextInt(most + 1);
    }

    /** Mostly from 0 to one beyond the last, at times anything. */
    private int number(int last) {
        int dice = chance.nextInt(rich ? 200 : 30);
        if (dice == 0) return -1 - upTo(2);
        if (dice == 1) return last + 1;
        if (dice == 2) return new int[] {Integer.MIN_VALUE, Integer.MAX_VALUE, 1 << 16, -100}[upTo(3)];
        return last <= 0 ? 0 : upTo(last);
    }

    private void write(String text) {
        for (int i = 0; i < text.length(); i += 8) {
            long w = Check.packed(text.substring(i, Math.min(text.length(), i + 8)));
            due("letters(" + w + ")", quick.letters(w), slow.letters(w));
        }
    }

    private String landText() {
        StringBuilder text = new StringBuilder();
        int places = 2 + upTo(mostPlaces - 2), mostFlour = new int[] {9, 30, 99, 999}[upTo(3)];
        int woods = rich ? 5 : 1 + upTo(5);
        for (int p = 0; p < places; p++) {
            if (p > 0) text.append(',');
            text.append(upTo(rich ? 9 : 2) == 0 ? 0 : upTo(mostFlour));
            if (upTo(5) < woods) text.append('w');
        }
        text.append(";b").append(1 + upTo(upTo(1) == 0 ? 9 : 98)).append('d').append(upTo(4) == 0 ? upTo(9) : upTo(rich ? 1 : 2));
        text.append('k').append(1 + upTo(8));
        if (upTo(1) == 0) text.append('r').append(upTo(upTo(1) == 0 ? 20 : 999));
        return text.toString();
    }

    private String marchText() {
        StringBuilder text = new StringBuilder().append(1 + upTo(upTo(2) == 0 ? 98 : 19)).append(':');
        int days = 0, chances = 0, want = 1 + upTo(9);
        while (days < want) {
            int kind = upTo(9);
            if (kind == 0) {
                text.append('m').append(1 + upTo(30));
            } else if (kind <= 2 && chances < 2) {
                text.append('c').append(1 + upTo(8));
                chances++;
                days++;
            } else {
                int many = 1 + upTo(Math.min(3, want - days - 1));
                text.append("fffbss".charAt(upTo(5)));
                if (many > 1) text.append(many);
                days += many;
            }
        }
        return text.toString();
    }

    private String toldText() {
        StringBuilder text = new StringBuilder();
        int many = 1 + upTo(5);
        for (int i = 0; i < many; i++) {
            if (i > 0) text.append(',');
            int from = upTo(10);
            text.append(upTo(Math.min(7, mostPlaces))).append('d').append(from).append('-').append(from + upTo(9) - 1);
        }
        return text.toString();
    }

    /** A text with one letter taken out, put in or changed. */
    private String spoilt(String text) {
        String letters = "0123456789wbdkrfscm,;:-x";
        int at = upTo(text.length() - 1);
        char letter = letters.charAt(upTo(letters.length() - 1));
        String tail = upTo(1) == 0 ? text.substring(at) : text.substring(at + 1);
        return text.substring(0, at) + (upTo(2) == 0 ? "" : String.valueOf(letter)) + tail;
    }

    private void goodLand() {
        due("blank()", quick.blank(), slow.blank());
        write(landText());
        due("land()", quick.land(), slow.land());
    }

    private void goodMarch() {
        due("blank()", quick.blank(), slow.blank());
        write(marchText());
        due("march()", quick.march(), slow.march());
    }

    private void goodPlan() {
        int kind = upTo(3), k = 1 + upTo(kind == 3 ? 1 : 2);
        int n = kind == 0 ? upTo(mostPlaces) : kind == 3 ? 0 : 1 + upTo(upTo(1) == 0 ? 2 : 8);
        n = Math.min(n, kind == 0 ? 7 : 9);
        due("plan(" + kind + ", " + k + ", " + n + ")", quick.plan(kind, k, n), slow.plan(kind, k, n));
    }

    private void goodTold() {
        due("blank()", quick.blank(), slow.blank());
        write(toldText());
        due("tell()", quick.tell(), slow.tell());
    }

    private void textStep() {
        switch (upTo(12)) {
            case 0 -> goodLand();
            case 1, 2 -> goodMarch();
            case 3, 4 -> goodPlan();
            case 5, 6 -> goodTold();
            case 7 -> {
                long w = upTo(1) == 0 ? chance.nextLong() : Check.packed("3:f".substring(upTo(2)));
                due("letters(" + w + ")", quick.letters(w), slow.letters(w));
            }
            case 8 -> due("blank()", quick.blank(), slow.blank());
            case 9 -> {
                int kind = number(4), k = number(4), n = number(10);
                due("plan(" + kind + ", " + k + ", " + n + ")", quick.plan(kind, k, n), slow.plan(kind, k, n));
            }
            default -> {
                due("blank()", quick.blank(), slow.blank());
                int sort = upTo(2);
                write(spoilt(sort == 0 ? landText() : sort == 1 ? marchText() : toldText()));
                for (int s = 0; s <= 2; s++) due("fault(" + s + ") of " + slow.page, quick.fault(s), slow.fault(s));
                if (sort == 0 && upTo(2) == 0) due("land()", quick.land(), slow.land());
                if (sort == 1) due("march()", quick.march(), slow.march());
                if (sort == 2) due("tell()", quick.tell(), slow.tell());
                if (upTo(3) == 0) due("digest()", quick.digest(), slow.digest());
            }
        }
    }

    private void toldStep() {
        int march = number(slow.marches.size() - 1), plan = number(slow.plans.size() - 1);
        int place = number(slow.count(0) - 1), what = number(5);
        switch (upTo(11)) {
            case 0 -> due("as(" + plan + ", " + what + ")", quick.as(plan, what), slow.as(plan, what));
            case 1 -> due("landTold(" + what + ")", quick.landTold(what), slow.landTold(what));
            case 2 -> {
                int w = number(1);
                due("place(" + place + ", " + w + ")", quick.place(place, w), slow.place(place, w));
            }
            case 3, 4 -> {
                int v = upTo(1) == 0 ? number(999) : upTo(30);
                due("flour(" + place + ", " + v + ")", quick.flour(place, v), slow.flour(place, v));
            }
            case 5 -> {
                int w = upTo(23);
                due("marchTold(" + march + ", " + w + ")", quick.marchTold(march, w), slow.marchTold(march, w));
            }
            case 6, 7 -> {
                int way = number(3), day = number(9);
                due("at(" + march + ", " + way + ", " + day + ")", quick.at(march, way, day), slow.at(march, way, day));
            }
            case 8 -> due("image()", quick.image(), slow.image());
            case 9 -> due("restore()", quick.restore(), slow.restore());
            case 10 -> due("count(" + what + ")", quick.count(what), slow.count(what));
            default -> due("digest()", quick.digest(), slow.digest());
        }
    }

    private void planStep() {
        int march = number(slow.marches.size() - 1), plan = number(slow.plans.size() - 1);
        int ways = march >= 0 && march < slow.marches.size() ? slow.marches.get(march).wayOn() : 3;
        int way = number(ways), w = number(1);
        String both = plan + ", " + march + ", ";
        switch (upTo(8)) {
            case 0 -> {
                int what = upTo(4) == 0 ? number(130) : upTo(3) == 0 ? 0 : 10 * upTo(11) + 11 + upTo(2);
                due("stand(" + both + what + ")", quick.stand(plan, march, what), slow.stand(plan, march, what));
            }
            case 1 -> {
                int place = number(slow.count(0) - 1), day = number(9);
                due("bakes(" + both + place + ", " + day + ")", quick.bakes(plan, march, place, day),
                        slow.bakes(plan, march, place, day));
            }
            case 2, 3 -> due("hungry(" + both + way + ")", quick.hungry(plan, march, way), slow.hungry(plan, march, way));
            case 4 -> due("carried(" + both + way + ")", quick.carried(plan, march, way), slow.carried(plan, march, way));
            case 5 -> due("lack(" + both + way + ")", quick.lack(plan, march, way), slow.lack(plan, march, way));
            case 6 -> {
                int part = number(1);
                due("mean(" + both + w + ", " + part + ")", quick.mean(plan, march, w, part), slow.mean(plan, march, w, part));
            }
            case 7 -> due("worst(" + both + w + ")", quick.worst(plan, march, w), slow.worst(plan, march, w));
            default -> {
                int seed = upTo(9) == 0 ? -chance.nextInt(5) : chance.nextInt() & Integer.MAX_VALUE, what = number(2);
                due("run(" + both + seed + ", " + what + ")", quick.run(plan, march, seed, what),
                        slow.run(plan, march, seed, what));
            }
        }
    }

    private void fiveStep() {
        int march = number(slow.marches.size() - 1), plan = number(slow.plans.size() - 1);
        String both = plan + ", " + march;
        switch (upTo(5)) {
            case 0 -> due("ahead(" + both + ")", quick.ahead(plan, march), slow.ahead(plan, march));
            case 1 -> {
                int men = upTo(1) == 0 ? number(99) : 1 + upTo(10);
                due("far(" + plan + ", " + men + ")", quick.far(plan, men), slow.far(plan, men));
            }
            case 2 -> {
                int what = number(1);
                due("burnt(" + both + ", " + what + ")", quick.burnt(plan, march, what), slow.burnt(plan, march, what));
            }
            case 3, 4 -> {
                int what = number(4);
                due("more(" + both + ", " + what + ")", quick.more(plan, march, what), slow.more(plan, march, what));
            }
            default -> due("which(" + march + ")", quick.which(march), slow.which(march));
        }
    }

    private void step() {
        switch (upTo(9)) {
            case 0 -> textStep();
            case 1, 2 -> toldStep();
            case 3 -> fiveStep();
            default -> planStep();
        }
    }
}
