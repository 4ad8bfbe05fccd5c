/** Promises 15 to 22, one method each: stands, and who eats by them. */
public final class PlanPromisesTest {
    private static final int NONE = FieldOvens.NONE, UNKNOWN = FieldOvens.UNKNOWN, OUTSIDE = FieldOvens.OUTSIDE;
    private static final int STATE = FieldOvens.STATE;
    private static final Check CHECK = new Check("promises 15 to 22");

    public static void main(String[] args) {
        standOfKinds();
        standOfBest();
        standRefused();
        bakes();
        hungryAndCarried();
        flourOfTheTown();
        fewOvens();
        lack();
        mean();
        worst();
        run();
        wayRefused();
        CHECK.end();
    }

    private static FieldOvens made(String land, String march) {
        FieldOvens x = new FieldOvens();
        CHECK.yes(land, Check.land(x, land) > 0);
        CHECK.due(march, Check.march(x, march), 0);
        return x;
    }

    /** Place, first and last day of each stand, in order, and none behind them. */
    private static void stands(String name, FieldOvens x, int plan, int... want) {
        CHECK.due("15: " + name + ": how many", x.stand(plan, 0, 0), want.length / 3);
        for (int i = 0; i < want.length && i < 36; i++) {
            int what = 10 * (i / 3) + 11 + i % 3;
            CHECK.due("15: " + name + ": " + what, x.stand(plan, 0, what), want[i]);
        }
        if (want.length < 36) {
            CHECK.due("15: " + name + ": none behind", x.stand(plan, 0, 10 * (want.length / 3) + 11), NONE);
        }
    }

    private static void standOfKinds() {
        FieldOvens base = made("1w,1w,1;b1d0k1", "1:s5");
        stands("base", base, base.plan(0, 2, 1), 1, 1, 4, 1, 1, 4);
        stands("base without wood", base, base.plan(0, 1, 2));
        stands("base nowhere", base, base.plan(0, 3, 7));
        FieldOvens brief = made("1w,1w;b1d9k1", "1:s");
        stands("base too late", brief, brief.plan(0, 1, 1));
        stands("base never built", brief, brief.plan(0, 1, 0), 0, 0, 0);

        FieldOvens back = made("0w,0,0w,0w;b1d0k1", "1:f3b2s");
        stands("follow 1", back, back.plan(1, 1, 1), 0, 0, 0, 2, 3, 3);
        stands("follow 3", back, back.plan(1, 1, 3), 0, 0, 2, 2, 5, 5);
        stands("follow 9, three ovens", back, back.plan(1, 3, 9), 0, 0, 5, 0, 0, 5, 0, 0, 5);

        FieldOvens bare = made("0,0w,0w;b1d0k1", "1:s2fb2f2");
        stands("follow, no spot at times", bare, bare.plan(1, 1, 1), 1, 2, 2, 1, 5, 5);
        stands("leap, no spot at times", bare, bare.plan(2, 1, 1), 1, 1, 1, 1, 4, 4, 2, 6, 6);
        stands("leap to the last day", bare, bare.plan(2, 2, 9), 2, 0, 6, 2, 0, 6);

        FieldOvens chance = made("0w,0w,0w;b1d0k1", "1:c1c1s");
        stands("follow by the way on", chance, chance.plan(1, 1, 1), 1, 0, 0, 2, 2, 2);

        FieldOvens told = made("1w,1w,1w;b1d0k1", "1:s8");
        int plan = Check.told(told, "2d3-1,1d0-9,1d0-4,0d0-3,2d0-0,3d0-9");
        stands("told", told, plan, 0, 0, 3, 1, 0, 4, 1, 0, 7, 2, 0, 0);
        stands("told by first days", told, Check.told(told, "0d2-3,1d1-1,0d8-9,2d7-99"), 1, 1, 1, 0, 2, 3, 2, 7, 7);
    }

    private static void standOfBest() {
        FieldOvens x = made("0w,9w;b5d0k1", "2:f2");
        stands("best where flour is", x, x.plan(3, 1, 0), 1, 1, 1);
        FieldOvens like = made("0w,0w;b5d0k1", "2:f2");
        stands("best, all alike", like, like.plan(3, 1, 0), 0, 0, 1);
        stands("best of two, all alike", like, like.plan(3, 2, 0), 0, 0, 1, 0, 0, 1);
        FieldOvens carried = made("9w,9w;b5d0k9", "2:f2");
        stands("best by carried", carried, carried.plan(3, 1, 0), 1, 1, 1);
        stands("best of two by carried, then the first", carried, carried.plan(3, 2, 0), 0, 0, 1, 1, 1, 1);
        FieldOvens bare = made("9,9;b5d0k9", "2:f2");
        stands("best without wood", bare, bare.plan(3, 2, 0));
        CHECK.due("17: best without wood", bare.hungry(0, 0, 0), 4);
        // What is kept of a choice must go with the flour it was made by.
        int plan = 0;
        CHECK.due("15: best ahead of flour", x.stand(plan, 0, 11), 1);
        x.flour(1, 0);
        x.flour(0, 9);
        CHECK.due("15: best behind flour", x.stand(plan, 0, 11), 0);
    }

    private static void standRefused() {
        FieldOvens x = new FieldOvens();
        CHECK.due("15: unknown plan", x.stand(0, 0, 0), UNKNOWN);
        x.plan(0, 3, 0);
        CHECK.due("15: unknown march", x.stand(0, 0, 0), UNKNOWN);
        Check.march(x, "1:s9s");
        CHECK.due("15: state ahead of outside", x.stand(0, 0, 1), STATE);
        CHECK.due("15: unknown ahead of state", x.stand(1, 0, 1), UNKNOWN);
        Check.land(x, "1w,1w;b1d0k1");
        for (int what : new int[] {-1, 1, 3, 9, 10, 14, 20, 24, 50, 120, 124, 131, 1000, -9, Integer.MIN_VALUE}) {
            CHECK.due("15: what " + what, x.stand(0, 0, what), OUTSIDE);
        }
        CHECK.due("15: what 123", x.stand(0, 0, 123), NONE);
        x.plan(1, 3, 1);
        CHECK.due("15: thirty", x.stand(1, 0, 0), 30);
        CHECK.due("15: the twelfth's last day", x.stand(1, 0, 123), 3);
    }

    private static void bakes() {
        FieldOvens x = new FieldOvens();
        Check.told(x, "0d1-5,0d1-5,1d0-1");
        Check.march(x, "1:s7");
        CHECK.due("16: state ahead of place and day", x.bakes(0, 0, 99, 99), STATE);
        CHECK.due("16: unknown plan ahead of state", x.bakes(1, 0, 0, 0), UNKNOWN);
        CHECK.due("16: unknown march ahead of state", x.bakes(0, 1, 0, 0), UNKNOWN);
        Check.land(x, "9w,9w;b5d2k3");
        int[] there = {0, 0, 0, 10, 10, 10, 0};
        for (int day = 0; day < 7; day++) {
            CHECK.due("16: place 0, day " + day, x.bakes(0, 0, 0, day), there[day]);
            CHECK.due("16: place 1, day " + day, x.bakes(0, 0, 1, day), 0);
        }
        CHECK.due("16: one that ends ahead of its build is a stand", x.stand(0, 0, 0), 3);
        CHECK.due("16: place 2", x.bakes(0, 0, 2, 0), UNKNOWN);
        CHECK.due("16: place -1", x.bakes(0, 0, -1, 0), UNKNOWN);
        CHECK.due("16: day 7", x.bakes(0, 0, 0, 7), UNKNOWN);
        CHECK.due("16: day -1", x.bakes(0, 0, 0, -1), UNKNOWN);
    }

    private static void fed(String name, FieldOvens x, int plan, int hungry, int carried) {
        CHECK.due("17: " + name, x.hungry(plan, 0, 0), hungry);
        CHECK.due("18: " + name, x.carried(plan, 0, 0), carried);
    }

    private static void hungryAndCarried() {
        FieldOvens x = made("10w,10w;b5d0k1", "3:s2f");
        int base = x.plan(0, 1, 0);
        fed("all eat", x, base, 0, 3);
        x.flour(0, 7);
        fed("flour for seven, first where nothing is carried", x, base, 2, 1);
        x.flour(0, 5);
        fed("flour for five", x, base, 4, 0);
        x.flour(0, 10);
        fed("flour again", x, base, 0, 3);

        FieldOvens keep = made("99w,0;b9d0k1", "2:s3");
        fed("bread that keeps a day", keep, Check.told(keep, "0d0-0"), 2, 0);
        FieldOvens longer = made("99w,0;b9d0k2", "2:s3");
        fed("bread that keeps two days", longer, Check.told(longer, "0d0-0"), 0, 0);
        FieldOvens two = made("99w,0;b2d0k2", "2:s3");
        fed("an oven for two", two, Check.told(two, "0d0-0"), 4, 0);
        fed("two ovens for two", two, Check.told(two, "0d0-0,0d0-0"), 2, 0);

        FieldOvens back = made("9w,9w;b9d0k9", "2:fbf");
        fed("bread goes back a place", back, Check.told(back, "1d0-0"), 0, 2);
        fed("bread comes a day late", back, Check.told(back, "0d0-0"), 2, 2);
        FieldOvens town = made("9w,0w;b5d0k3", "2:fbs");
        fed("flour there and bread back", town, town.plan(0, 1, 1), 4, 4);
    }

    private static void flourOfTheTown() {
        FieldOvens x = made("9w,0,0w;b9d0k9", "1:f2s2");
        int told = Check.told(x, "2d0-9");
        fed("flour of the town comes on day 2", x, told, 2, 4);
        x.flour(2, 1);
        fed("own flour is there at once", x, told, 1, 4);
        x.flour(0, 0);
        fed("own flour for one", x, told, 3, 0);
        x.flour(1, 50);
        fed("flour of another place does not come", x, told, 3, 0);
    }

    private static void fewOvens() {
        // One oven a day for two at place 1: day 0 and day 1 want it, and what is baked on day 0 can serve both.
        FieldOvens x = made("0w,9w;b2d0k9", "2:fs2");
        fed("six by three days", x, Check.told(x, "1d0-2"), 0, 0);
        fed("six by a day", x, Check.told(x, "1d0-0"), 4, 0);
        fed("six by the last day", x, Check.told(x, "1d2-2"), 4, 0);
        // The bread of place 0 reaches only day 1, so that of place 1 must go to day 0.
        FieldOvens both = made("2w,2w;b2d0k1", "2:f2");
        fed("each where it is wanted", both, Check.told(both, "0d0-0,1d0-0"), 0, 2);
    }

    private static void lack() {
        FieldOvens x = made("10w,10w;b5d0k1", "3:s2f");
        int base = x.plan(0, 1, 0);
        CHECK.due("19: on no day", x.lack(base, 0, 0), NONE);
        x.flour(0, 7);
        CHECK.due("19: on day 2", x.lack(base, 0, 0), 2);
        x.flour(0, 2);
        CHECK.due("19: on day 0", x.lack(base, 0, 0), 0);
        FieldOvens biscuit = made("0w,0;b5d0k1r6", "3:s4");
        CHECK.due("19: six by biscuit", biscuit.lack(biscuit.plan(0, 1, 0), 0, 0), 2);
        FieldOvens enough = made("0w,0;b5d0k1r12", "3:s4");
        CHECK.due("19: all by biscuit", enough.lack(enough.plan(0, 1, 0), 0, 0), NONE);
        // The one ration of day 0 is nearer to day 1, but over day 0 alone it is eaten there.
        FieldOvens early = made("0w,1w;b5d0k9", "1:s2f");
        CHECK.due("19: over its days alone", early.lack(Check.told(early, "1d0-9"), 0, 0), 0);
        FieldOvens near = made("0w,2w;b5d0k9", "1:f2bf");
        CHECK.due("19: nearer ones later on", near.lack(Check.told(near, "1d0-9"), 0, 0), 2);
    }

    /** Way 3 carries 2; way 1 nothing; by 2 and 0 two are hungry, by 0 two are carried. */
    private static FieldOvens byChances() {
        FieldOvens x = made("9w,9w,9w;b5d0k3", "2:c3c5");
        CHECK.due("told", Check.told(x, "1d0-0"), 0);
        return x;
    }

    private static void mean() {
        FieldOvens x = byChances();
        int[] hungry = {2, 0, 2, 0};
        int[] carried = {2, 0, 0, 2};
        for (int way = 0; way < 4; way++) {
            CHECK.due("17: by way " + way, x.hungry(0, 0, way), hungry[way]);
            CHECK.due("18: by way " + way, x.carried(0, 0, way), carried[way]);
        }
        CHECK.due("20: hungry above", x.mean(0, 0, 0, 0), 7);
        CHECK.due("20: hungry below", x.mean(0, 0, 0, 1), 5);
        CHECK.due("20: carried above", x.mean(0, 0, 1, 0), 1);
        CHECK.due("20: carried below", x.mean(0, 0, 1, 1), 1);
        Check.march(x, "1:c3");
        CHECK.due("20: one chance above", x.mean(0, 1, 0, 0), 7);
        CHECK.due("20: one chance below", x.mean(0, 1, 0, 1), 10);
        Check.march(x, "3:f");
        CHECK.due("20: none above", x.mean(0, 2, 0, 0), 0);
        CHECK.due("20: none below", x.mean(0, 2, 0, 1), 1);
        CHECK.due("20: what 2", x.mean(0, 0, 2, 0), OUTSIDE);
        CHECK.due("20: what -1", x.mean(0, 0, -1, 0), OUTSIDE);
        CHECK.due("20: part 2", x.mean(0, 0, 0, 2), OUTSIDE);
        CHECK.due("20: part -1", x.mean(0, 0, 0, -1), OUTSIDE);
        CHECK.due("20: unknown plan", x.mean(1, 0, 9, 9), UNKNOWN);
        CHECK.due("20: unknown march", x.mean(0, 3, 9, 9), UNKNOWN);
    }

    private static void worst() {
        FieldOvens x = byChances();
        CHECK.due("21: the least of like ones", x.worst(0, 0, 0), 0);
        CHECK.due("21: its hungry", x.worst(0, 0, 1), 2);
        int town = Check.told(x, "0d0-0");
        CHECK.due("21: the way on", x.worst(town, 0, 0), 3);
        CHECK.due("21: the way on's hungry", x.worst(town, 0, 1), 4);
        CHECK.due("21: what 2", x.worst(0, 0, 2), OUTSIDE);
        CHECK.due("21: what -1", x.worst(0, 0, -1), OUTSIDE);
        CHECK.due("21: unknown plan", x.worst(2, 0, 2), UNKNOWN);
        CHECK.due("21: unknown march", x.worst(0, -1, 2), UNKNOWN);
    }

    private static void run() {
        FieldOvens x = byChances();
        Check.march(x, "2:c9c9");
        Check.march(x, "2:c5c7");
        Check.march(x, "2:c5c6");
        CHECK.due("22: seed 0, draws 0 and 8: way", x.run(0, 0, 0, 0), 1);
        CHECK.due("22: seed 0: hungry", x.run(0, 0, 0, 1), 0);
        CHECK.due("22: seed 0: seed", x.run(0, 0, 0, 2), 1406932606);
        CHECK.due("22: seed 7, draws 4 and 6: way", x.run(0, 0, 7, 0), 0);
        CHECK.due("22: seed 7: hungry", x.run(0, 0, 7, 1), 2);
        CHECK.due("22: seed 7: seed", x.run(0, 0, 7, 2), 642666333);
        CHECK.due("22: seed 0 by 9 and 9", x.run(0, 1, 0, 0), 3);
        CHECK.due("22: the last seed, draws 9 and 9", x.run(0, 1, Integer.MAX_VALUE, 0), 0);
        CHECK.due("22: seed 7 by 5 and 7", x.run(0, 2, 7, 0), 3);
        CHECK.due("22: seed 7 by 5 and 6", x.run(0, 3, 7, 0), 1);
        CHECK.due("22: seed -1", x.run(0, 0, -1, 0), OUTSIDE);
        CHECK.due("22: what 3", x.run(0, 0, 0, 3), OUTSIDE);
        CHECK.due("22: what -1", x.run(0, 0, 0, -1), OUTSIDE);
        CHECK.due("22: unknown plan", x.run(1, 0, -1, 0), UNKNOWN);
        CHECK.due("22: unknown march", x.run(0, 4, -1, 0), UNKNOWN);
        FieldOvens sure = made("1w,1;b1d0k1", "1:f");
        sure.plan(0, 1, 0);
        CHECK.due("22: no chance, the seed stays", sure.run(0, 0, 55, 2), 55);
        CHECK.due("22: no chance, way 0", sure.run(0, 0, 55, 0), 0);
    }

    private static void wayRefused() {
        FieldOvens x = new FieldOvens();
        for (int plan = 0; plan < 2; plan++) {
            String with = plan == 0 ? "nothing" : "a plan, no march";
            CHECK.due("17: with " + with, x.hungry(0, 0, 0), UNKNOWN);
            CHECK.due("18: with " + with, x.carried(0, 0, 0), UNKNOWN);
            CHECK.due("19: with " + with, x.lack(0, 0, 0), UNKNOWN);
            CHECK.due("20: with " + with, x.mean(0, 0, 0, 0), UNKNOWN);
            CHECK.due("21: with " + with, x.worst(0, 0, 0), UNKNOWN);
            CHECK.due("22: with " + with, x.run(0, 0, 0, 0), UNKNOWN);
            x.plan(0, 1, 0);
        }
        Check.march(x, "1:c5");
        CHECK.due("17: state", x.hungry(0, 0, 9), STATE);
        CHECK.due("18: state", x.carried(0, 0, 9), STATE);
        CHECK.due("19: state", x.lack(0, 0, 9), STATE);
        CHECK.due("20: state", x.mean(0, 0, 9, 9), STATE);
        CHECK.due("21: state", x.worst(0, 0, 9), STATE);
        CHECK.due("22: state", x.run(0, 0, -1, 9), STATE);
        Check.land(x, "1w,1;b1d0k1");
        for (int way : new int[] {-1, 2, 4, Integer.MAX_VALUE}) {
            CHECK.due("17: way " + way, x.hungry(0, 0, way), OUTSIDE);
            CHECK.due("18: way " + way, x.carried(0, 0, way), OUTSIDE);
            CHECK.due("19: way " + way, x.lack(0, 0, way), OUTSIDE);
        }
        CHECK.due("17: way 1", x.hungry(0, 0, 1), 1);
        CHECK.due("17: way 0", x.hungry(0, 0, 0), 0);
    }
}
