/** The boundaries of promises 15 to 22: stands, and who eats by them. */
public final class EdgesOfPlansTest extends Edges {
    private static final String WOODS = "1w,1w,1w,1w,1w,1w,1w,1w;b1d0k1";

    private EdgesOfPlansTest() {
        super("edges of plans");
    }

    public static void main(String[] args) throws Exception {
        new EdgesOfPlansTest().play(15, 22);
    }

    /** Place, first and last day of each stand, in order, and none behind them. */
    private void stands(String name, FieldOvens x, int plan, int... want) {
        due(name + ": how many", x.stand(plan, 0, 0), want.length / 3);
        for (int i = 0; i < want.length; i++) {
            int what = 10 * (i / 3) + 11 + i % 3;
            due(name + ": " + what, x.stand(plan, 0, what), want[i]);
        }
        due(name + ": none behind", x.stand(plan, 0, 10 * (want.length / 3) + 11), NONE);
    }

    private void told(String land, String march, String told, int... want) {
        stands(told + " for " + march + " in " + land, made(land, march, told), 0, want);
    }

    private void planned(String land, String march, int[] plan, int... want) {
        FieldOvens x = made(land, march);
        x.plan(plan[0], plan[1], plan[2]);
        stands("plan " + plan[0] + " " + plan[1] + " " + plan[2] + " for " + march + " in " + land, x, 0, want);
    }

    private static int[] plan(int kind, int k, int n) {
        return new int[] {kind, k, n};
    }

    // ---- 15 stand

    @Says({"(UNKNOWN: plan, march; STATE: there is no LAND; OUTSIDE: way and so on)", "STANDS of a PLAN for a MARCH"})
    void p15_refusedInOrder() {
        refusedInOrder(USUAL, (x, plan, march) -> x.stand(plan, march, 0), (x, plan, march) -> x.stand(plan, march, 10));
        lastPlanAndMarch(USUAL, (x, plan, march) -> x.stand(plan, march, 0));
    }

    @Says("OUTSIDE: what (11 to 123 else, with a last figure 1 to 3).")
    void p15_whatJustOutside() {
        FieldOvens x = made(WOODS, "1:s", "0d0-0");
        for (int what = -140; what <= 140; what++) {
            boolean told = what == 0 || what >= 11 && what <= 123 && what % 10 >= 1 && what % 10 <= 3;
            int want = what == 0 ? 1 : what == 11 || what == 12 || what == 13 ? 0 : told ? NONE : OUTSIDE;
            due("stand(0, 0, " + what + ")", x.stand(0, 0, what), want);
        }
        for (int what : new int[] {LEAST, LEAST + 1, MOST, MOST - 6, 1011}) {
            refused(x, "stand(0, 0, " + what + ")", OUTSIDE, () -> x.stand(0, 0, what));
        }
    }

    @Says("those that there are: also such as end ahead of their BUILD; NONE: there is none such")
    void p15_noneSuch() {
        FieldOvens six = made(WOODS, "1:s9s", "0d0-0,0d1-1,0d2-2,0d3-3,0d4-4,0d5-5");
        due("the sixth", six.stand(0, 0, 63), 5);
        due("no seventh", six.stand(0, 0, 71), NONE);
        due("no twelfth", six.stand(0, 0, 123), NONE);
        FieldOvens none = made(WOODS, "1:s", "0d1-1");
        due("none", none.stand(0, 0, 0), 0);
        for (int what = 11; what <= 13; what++) due("stand(0, 0, " + what + ")", none.stand(0, 0, what), NONE);
    }

    @Says("those that there are: also such as end ahead of their BUILD; NONE: there is none such")
    void p15_suchAsEndAheadOfTheirBuild() {
        told("1w,1;b1d9k1", "1:s", "0d0-0", 0, 0, 0);
        told("1w,1;b1d1k1", "1:s9s", "0d9-9", 0, 9, 9);
    }

    @Says("10 times i and 11, 12, 13 (i from 0) PLACE, first DAY, last DAY of the i-th")
    void p15_moreThanTwelve() {
        FieldOvens x = made(WOODS, "1:s9s");
        x.plan(1, 3, 1);
        due("thirty", x.stand(0, 0, 0), 30);
        due("the twelfth's place", x.stand(0, 0, 121), 0);
        due("the twelfth's first day", x.stand(0, 0, 122), 3);
        due("the twelfth's last day", x.stand(0, 0, 123), 3);
    }

    @Says("(by first DAYS, of like ones by PLACES, of like ones by last DAYS;")
    void p15_inOrder() {
        told(WOODS, "1:s5", "1d1-3,0d1-3,0d1-2,1d0-9", 1, 0, 4, 0, 1, 2, 0, 1, 3, 1, 1, 3);
        told(WOODS, "1:s5", "0d0-9,0d0-3,0d0-4", 0, 0, 3, 0, 0, 4, 0, 0, 4);
    }

    @Says("At a PLACE that has no WOOD, or that is not, there is none.")
    void p15_noWoodOrNoPlace() {
        String land = "1w,1;b1d0k1";
        planned(land, "1:s9s", plan(0, 1, 0), 0, 0, 9);
        planned(land, "1:s9s", plan(0, 1, 1));
        planned(land, "1:s9s", plan(0, 1, 2));
        planned(land, "1:s9s", plan(0, 3, 7));
        told(land, "1:s9s", "1d0-9,2d0-9,7d0-9");
        told(WOODS, "1:s9s", "7d0-9", 7, 0, 9);
        told("1w,1w,1w,1w,1w,1w,1w;b1d0k1", "1:s9s", "7d0-9,6d0-9", 6, 0, 9);
    }

    @Says("It ends on the last DAY of the MARCH at most; one that would begin behind that, or behind its own end, is none.")
    void p15_theLastDayOfTheMarch() {
        told(WOODS, "1:s9s", "0d9-9", 0, 9, 9);
        told(WOODS, "1:s9s", "0d10-10");
        told(WOODS, "1:s9s", "0d99-99");
        told(WOODS, "1:s9s", "0d0-8,0d0-9,0d0-10,0d0-99", 0, 0, 8, 0, 0, 9, 0, 0, 9, 0, 0, 9);
        told(WOODS, "1:s", "0d0-9", 0, 0, 0);
        told(WOODS, "1:s", "0d1-9");
    }

    @Says("It ends on the last DAY of the MARCH at most; one that would begin behind that, or behind its own end, is none.")
    void p15_behindItsOwnEnd() {
        told(WOODS, "1:s9s", "0d5-6", 0, 5, 6);
        told(WOODS, "1:s9s", "0d5-5", 0, 5, 5);
        told(WOODS, "1:s9s", "0d5-4");
        told(WOODS, "1:s9s", "0d99-0");
    }

    @Says("A BASE: k STANDS at PLACE n (0 to 7), from DAY n to the last one.")
    void p15_baseFromDayN() {
        planned(WOODS, "1:s9s", plan(0, 1, 0), 0, 0, 9);
        planned(WOODS, "1:s9s", plan(0, 3, 7), 7, 7, 9, 7, 7, 9, 7, 7, 9);
        planned(WOODS, "1:s8", plan(0, 1, 7), 7, 7, 7);
        planned(WOODS, "1:s7", plan(0, 1, 7));
        planned(WOODS, "1:s", plan(0, 2, 0), 0, 0, 0, 0, 0, 0);
        planned(WOODS, "1:s", plan(0, 2, 1));
    }

    @Says("THE SPOT for t: of PLACES with WOOD not beyond where the column is on DAY t (by THE WAY ON) the last one")
    void p15_followTheLastNotBeyond() {
        planned("1w,1w,1w;b1d0k1", "1:f", plan(1, 1, 9), 1, 0, 0);
        planned("1w,1,1w;b1d0k1", "1:f", plan(1, 1, 9), 0, 0, 0);
        planned("1,1w;b1d0k1", "1:f", plan(1, 1, 9), 1, 0, 0);
        planned("1w,1w;b1d0k1", "1:s", plan(1, 1, 9), 0, 0, 0);
        planned("1w,1w;b1d0k1", "1:c1", plan(1, 1, 9), 1, 0, 0);
    }

    @Says("if there is none, t is one DAY later.")
    void p15_followNoSpotUpToTheLastDay() {
        planned("1,1w;b1d0k1", "1:s9f", plan(1, 1, 1), 1, 9, 9);
        planned("1,1w;b1d0k1", "1:s9f", plan(1, 2, 9), 1, 9, 9, 1, 9, 9);
        planned("1,1w;b1d0k1", "1:s9s", plan(1, 1, 1));
        planned("1,1;b1d0k1", "1:f9f", plan(1, 3, 1));
    }

    @Says("k STANDS there from t to t and n less 1; then t is n DAYS later")
    void p15_followStays1To9() {
        planned("1w,1;b1d0k1", "1:s3", plan(1, 1, 1), 0, 0, 0, 0, 1, 1, 0, 2, 2);
        planned("1w,1;b1d0k1", "1:s9s", plan(1, 1, 9), 0, 0, 8, 0, 9, 9);
        planned("1w,1;b1d0k1", "1:s9", plan(1, 1, 9), 0, 0, 8);
        planned("1w,1;b1d0k1", "1:s9s", plan(1, 1, 8), 0, 0, 7, 0, 8, 9);
    }

    @Says({"is come to as many DAYS later as it is PLACES from the one ahead: so much later t is then, too;",
        "and so on, as long as t is a DAY of the MARCH."})
    void p15_followComesTooLate() {
        planned("1w,1w;b1d0k1", "1:s9f", plan(1, 1, 9), 0, 0, 8);
        planned("1w,1w;b1d0k1", "1:s8f2", plan(1, 1, 8), 0, 0, 7, 1, 9, 9);
        planned("1w,1,1w;b1d0k1", "1:s7f2s", plan(1, 1, 7), 0, 0, 6, 0, 7, 9);
        planned("1w,1,1w;b1d0k1", "1:s6f2s2", plan(1, 1, 7), 0, 0, 6, 2, 9, 9);
        planned("1w,1,1w;b1d0k1", "1:s5f2s2", plan(1, 1, 6), 0, 0, 5, 2, 8, 8);
        planned("1w,1,1w;b1d0k1", "1:s5f2s", plan(1, 1, 6), 0, 0, 5);
        planned("1w,1w;b1d0k1", "1:fb2", plan(1, 1, 1), 1, 0, 0, 0, 2, 2);
    }

    @Says("and THE SPOT for that t (if there is none, t is one DAY later, and so on)")
    void p15_followNoSpotAmidTheMarch() {
        planned("1,1w;b1d0k1", "1:fb2f", plan(1, 1, 1), 1, 0, 0, 1, 3, 3);
        planned("1,1w;b1d0k1", "1:fb8f", plan(1, 1, 1), 1, 0, 0, 1, 9, 9);
        planned("1,1w;b1d0k1", "1:fb9", plan(1, 1, 1), 1, 0, 0);
        planned("1,1w,1w;b1d0k1", "1:fbf3", plan(1, 1, 1), 1, 0, 0, 1, 2, 2, 2, 4, 4);
    }

    @Says("A LEAP: likewise, but THE SPOT for t by where the column is n DAYS later (on the last DAY at most).")
    void p15_leapOnTheLastDayAtMost() {
        planned("1w,1w;b1d0k1", "1:s9f", plan(2, 1, 9), 1, 0, 8, 1, 9, 9);
        planned("1w,1w;b1d0k1", "1:s9f", plan(2, 1, 8), 0, 0, 7, 1, 9, 9);
        planned("1w,1w;b1d0k1", "1:s", plan(2, 1, 1), 0, 0, 0);
        planned("1w,1w;b1d0k1", "1:f", plan(2, 3, 9), 1, 0, 0, 1, 0, 0, 1, 0, 0);
        planned("1,1w;b1d0k1", "1:s9f", plan(2, 1, 1), 1, 8, 8, 1, 9, 9);
        planned("1,1w;b1d0k1", "1:s9s", plan(2, 1, 9));
    }

    @Says("A BEST (n 0): each OVEN stands at one PLACE that has WOOD, as a BASE's")
    void p15_bestWithoutAPlace() {
        planned("9,9;b5d0k9", "2:f2", plan(3, 2, 0));
        planned("9,9w;b5d0k9", "1:s", plan(3, 1, 0));
        planned("9,9w;b5d0k9", "1:s2", plan(3, 1, 0), 1, 1, 1);
        planned("9,0,0,0,0,0,0,9w;b5d0k9", "1:s8", plan(3, 2, 0), 7, 7, 7, 7, 7, 7);
        planned("9,0,0,0,0,0,0,9w;b5d0k9", "1:s7", plan(3, 2, 0));
    }

    @Says("of all choices (of PLACES that do not fall) that by which HUNGRY by THE WAY ON is least, of like ones CARRIED, "
        + "of like ones the first, by PLACES in order.")
    void p15_bestOfLikeOnes() {
        planned("0w,0w;b5d0k9", "2:f2", plan(3, 1, 0), 0, 0, 1);
        planned("0w,0w;b5d0k9", "2:f2", plan(3, 2, 0), 0, 0, 1, 0, 0, 1);
        planned("0,0w,0w;b5d0k9", "2:f2s", plan(3, 2, 0), 1, 1, 2, 1, 1, 2);
        planned("9w,9w;b5d0k9", "2:f2", plan(3, 1, 0), 1, 1, 1);
        planned("9w,9w;b5d0k9", "2:f2", plan(3, 2, 0), 0, 0, 1, 1, 1, 1);
        planned("9w,9w;b5d0k9", "1:sf", plan(3, 1, 0), 0, 0, 1);
        planned("9w,9w;b5d0k9", "2:c1f", plan(3, 1, 0), 1, 1, 1);
    }

    @Says("that by which HUNGRY by THE WAY ON is least, of like ones CARRIED")
    void p15_bestByStandsAsABaseHas() {
        // Begun a day sooner the oven at place 1 would feed two more; as it is, place 2 carries less.
        planned("0w,9w,9w;b5d0k9", "1:f4", plan(3, 1, 0), 2, 2, 3);
    }

    @Says("STANDS of a PLAN for a MARCH")
    void p15_bestForEachMarchAndPlan() {
        FieldOvens x = new FieldOvens();
        Check.land(x, "9w,9w,9w;b5d0k9");
        String[] marches = {"1:s3", "1:s4", "1:f4", "1:s2"};
        int[] one = {0, 0, 2, 0};
        for (String march : marches) Check.march(x, march);
        for (int plan = 0; plan < 8; plan++) x.plan(3, 1 + plan % 2, 0);
        for (int plan = 0; plan < 8; plan++) {
            for (int march = 3; march >= 0; march--) {
                String name = "plan " + plan + ", march " + march;
                due(name + ": how many", x.stand(plan, march, 0), 1 + plan % 2);
                if (plan % 2 == 0) due(name + ": place", x.stand(plan, march, 11), one[march]);
                due(name + ": last day", x.stand(plan, march, 13), x.marchTold(march, 0) - 1);
            }
        }
    }

    // ---- 16 bakes

    @Says("UNKNOWN: place, day, behind STATE.")
    void p16_refusedInOrder() {
        Answers answers = new Answers(UNKNOWN, STATE, UNKNOWN);
        Call right = (x, plan, march) -> x.bakes(plan, march, 0, 0);
        refusedInOrder(answers, right, (x, plan, march) -> x.bakes(plan, march, 2, 0));
        refusedInOrder(answers, right, (x, plan, march) -> x.bakes(plan, march, 0, 2));
        lastPlanAndMarch(answers, right);
    }

    @Says("UNKNOWN: place, day, behind STATE.")
    void p16_placesAndDaysJustOutside() {
        FieldOvens x = made("1w,1w;b5d0k1", "1:s9s", "0d0-0,1d9-9");
        due("the first", x.bakes(0, 0, 0, 0), 5);
        due("the last", x.bakes(0, 0, 1, 9), 5);
        for (int place : new int[] {-1, 2, 8, LEAST, MOST}) {
            refused(x, "place " + place, UNKNOWN, () -> x.bakes(0, 0, place, 0));
        }
        for (int day : new int[] {-1, 10, LEAST, MOST}) {
            refused(x, "day " + day, UNKNOWN, () -> x.bakes(0, 0, 0, day));
        }
        FieldOvens brief = made(WOODS, "1:s", "7d0-0");
        due("the last of eight places", brief.bakes(0, 0, 7, 0), 1);
        refused(brief, "place 8", UNKNOWN, () -> brief.bakes(0, 0, 8, 0));
        refused(brief, "day 1", UNKNOWN, () -> brief.bakes(0, 0, 7, 1));
    }

    @Says("from a DAY to a DAY (both in): it is built on the first BUILD DAYS of these, "
        + "and can bake BAKES hundreds on each DAY behind.")
    void p16_builtOnTheFirstDays() {
        for (int build = 0; build <= 9; build++) {
            FieldOvens x = made("1w,1;b7d" + build + "k1", "1:s9s", "0d2-5");
            for (int day = 0; day <= 9; day++) {
                int want = day >= 2 + build && day <= 5 ? 7 : 0;
                due("build " + build + ", day " + day, x.bakes(0, 0, 0, day), want);
            }
        }
    }

    @Says("How many hundreds OVENS of a PLAN can bake at a PLACE on a DAY.")
    void p16_noneAndTheMost() {
        FieldOvens x = made("1w,1w;b99d0k1", "1:s2", "0d0-0,0d0-0,0d0-0,0d0-0,0d0-0,0d0-0");
        due("six ovens of 99", x.bakes(0, 0, 0, 0), 594);
        due("no oven that day", x.bakes(0, 0, 0, 1), 0);
        due("no oven there", x.bakes(0, 0, 1, 0), 0);
        Check.land(x, "1,1w;b99d0k1");
        due("no wood", x.bakes(0, 0, 0, 0), 0);
    }

    // ---- 17 hungry, 18 carried

    /** HUNGRY and CARRIED of a told plan by way 0. */
    private void fed(String land, String march, String told, int hungry, int carried) {
        FieldOvens x = made(land, march, told);
        String name = told + " for " + march + " in " + land;
        due("hungry: " + name, x.hungry(0, 0, 0), hungry);
        due("carried: " + name, x.carried(0, 0, 0), carried);
    }

    private void waysJustOutside(Way call) {
        FieldOvens x = made("9w,9w;b5d0k9", "1:f", "0d0-0");
        Check.march(x, "1:c5");
        Check.march(x, "1:c5c5");
        for (int march = 0; march <= 2; march++) {
            int of = march, last = (1 << march) - 1;
            for (int way = 0; way <= last; way++) {
                due("way " + way, call.ask(x, march, way) >= NONE ? 1 : 0, 1);
            }
            for (int way : new int[] {-1, last + 1, LEAST, MOST}) {
                refused(x, "march " + march + ", way " + way, OUTSIDE, () -> call.ask(x, of, way));
            }
        }
    }

    private interface Way {
        int ask(FieldOvens x, int march, int way);
    }

    @Says("(UNKNOWN: plan, march; STATE: there is no LAND; OUTSIDE: way and so on)")
    void p17_refusedInOrder() {
        refusedInOrder(USUAL, (x, plan, march) -> x.hungry(plan, march, 0), (x, plan, march) -> x.hungry(plan, march, 4));
        lastPlanAndMarch(USUAL, (x, plan, march) -> x.hungry(plan, march, 3));
        waysJustOutside((x, march, way) -> x.hungry(0, march, way));
    }

    @Says("if u less t is not below how far q is from p, and KEEP at most.")
    void p17_keepAtMost() {
        fed("99w,0;b99d0k1", "1:s2", "0d0-0", 0, 0);
        fed("99w,0;b99d0k1", "1:s3", "0d0-0", 1, 0);
        fed("99w,0;b99d0k8", "1:s9s", "0d0-0", 1, 0);
        fed("99w,0;b99d0k9", "1:s9s", "0d0-0", 0, 0);
    }

    @Says("if u less t is not below how far q is from p, and KEEP at most.")
    void p17_notBelowHowFar() {
        fed("9w,0;b9d0k9", "1:f", "0d0-0", 1, 0);
        fed("9w,0;b9d0k9", "1:fs", "0d0-0", 1, 1);
        fed("0,9w;b9d0k9", "1:s2", "1d0-0", 1, 1);
        fed("9w,0,0;b9d0k1", "1:f2s", "0d0-9", 3, 0);
        fed("9w,0,0;b9d0k2", "1:f2s", "0d0-9", 2, 2);
        fed("9w,0,0,0,0,0,0,0;b9d0k6", "1:f9f", "0d0-9", 10, 0);
        fed("9w,0,0,0,0,0,0,0;b9d0k7", "1:f9f", "0d0-9", 7, 21);
    }

    @Says("or of the TOWN, which comes a PLACE a DAY from DAY 0 on (so that t is p at least).")
    void p17_flourOfTheTown() {
        fed("9,0w;b9d0k9", "1:f2", "1d0-0", 2, 0);
        fed("9,0w;b9d0k9", "1:f2", "1d1-1", 1, 1);
        fed("9w,0;b9d0k9", "1:s", "0d0-0", 0, 0);
        fed("9,0,0,0,0,0,0,0w;b9d0k9", "1:f7s3", "7d6-6", 10, 0);
        fed("9,0,0,0,0,0,0,0w;b9d0k9", "1:f7s3", "7d7-7", 7, 21);
        fed("0w,9,0w;b9d0k9", "1:f2", "2d0-9,0d0-9", 2, 0);
    }

    @Says("HUNGRY by a WAY: of all ways to bake and to carry the least sum, over all DAYS, of hundreds who do not eat.")
    void p17_noneAndAll() {
        fed("0w,0;b99d0k9", "99:s9s", "0d0-9", 990, 0);
        fed("999,0;b99d0k9", "99:s9s", "0d0-9", 990, 0);
        fed("990w,0;b99d0k9", "99:s9s", "0d0-9", 0, 0);
        fed("989w,0;b99d0k9", "99:s9s", "0d0-9", 1, 0);
        fed("999w,0;b98d0k9", "99:s9s", "0d0-9", 10, 0);
        fed("1w,0;b1d0k1", "1:s", "0d0-0", 0, 0);
        fed("1w,0;b1d1k1", "1:s", "0d0-0", 1, 0);
    }

    @Says("It is baked from FLOUR of that PLACE, or of the TOWN")
    void p17_ofThatPlaceOrOfTheTown() {
        fed("0w,3w;b9d0k9", "1:f4", "1d0-9", 1, 0);
        fed("1w,3w;b9d0k9", "1:f4", "1d0-9", 0, 1);
        fed("0,9w,0w;b9d0k9", "1:f4", "2d0-9", 4, 0);
        fed("9w,9w;b9d0k9", "1:s4", "0d0-9", 0, 0);
    }

    @Says("CARRIED: of each hundred the PLACES that its bread goes, and those that its FLOUR went.")
    void p18_noneAndTheFarthest() {
        fed("9w,0;b9d0k9", "1:s9s", "0d0-0", 1, 0);
        fed("0,9w;b9d0k9", "1:s9s", "1d0-0", 1, 9);
        fed("99,0,0,0,0,0,0,0w;b99d0k9", "10:f7b3", "7d7-7", 100, 0);
        fed("99,0,0,0,0,0,0,0w;b99d0k9", "10:f7sb2", "7d7-7", 70, 70 + 80 + 90);
    }

    @Says("CARRIED: the least for that.")
    void p18_theLeastForThat() {
        fed("9w,9w;b9d0k9", "1:sf", "0d0-9,1d0-9", 0, 0);
        fed("9w,0w;b9d0k9", "1:sf", "0d0-9,1d0-9", 0, 1);
        fed("1w,1w;b9d0k9", "1:sfb", "0d0-9,1d0-9", 1, 0);
    }

    @Says("(UNKNOWN: plan, march; STATE: there is no LAND; OUTSIDE: way and so on)")
    void p18_refusedInOrder() {
        refusedInOrder(USUAL, (x, plan, march) -> x.carried(plan, march, 0), (x, plan, march) -> x.carried(plan, march, -1));
        lastPlanAndMarch(USUAL, (x, plan, march) -> x.carried(plan, march, 3));
        waysJustOutside((x, march, way) -> x.carried(0, march, way));
    }

    // ---- 19 lack

    private void lack(String land, String march, String told, int day) {
        due(told + " for " + march + " in " + land, made(land, march, told).lack(0, 0, 0), day);
    }

    @Says("(UNKNOWN: plan, march; STATE: there is no LAND; OUTSIDE: way and so on)")
    void p19_refusedInOrder() {
        refusedInOrder(USUAL, (x, plan, march) -> x.lack(plan, march, 0), (x, plan, march) -> x.lack(plan, march, 4));
        lastPlanAndMarch(USUAL, (x, plan, march) -> x.lack(plan, march, 3));
        waysJustOutside((x, march, way) -> x.lack(0, march, way));
    }

    @Says("LACK: the first DAY d for which HUNGRY, over DAYS 0 to d alone (by STANDS as they are), is above BISCUIT.")
    void p19_aboveBiscuit() {
        lack("0w,0;b9d0k9r0", "1:s", "0d0-9", 0);
        lack("0w,0;b9d0k9r1", "1:s", "0d0-9", NONE);
        lack("0w,0;b9d0k9r5", "3:s2", "0d0-9", 1);
        lack("0w,0;b9d0k9r6", "3:s2", "0d0-9", NONE);
        lack("0w,0;b9d0k9r989", "99:s9s", "0d0-9", 9);
        lack("0w,0;b9d0k9r990", "99:s9s", "0d0-9", NONE);
        lack("0w,0;b9d0k9r999", "99:s9s", "0d0-9", NONE);
    }

    @Says("LACK; NONE: on no DAY.")
    void p19_theFirstDayTheLastAndNone() {
        lack("9w,0;b9d0k9", "1:s9s", "0d0-9", 9);
        lack("10w,0;b9d0k9", "1:s9s", "0d0-9", NONE);
        lack("0w,0;b9d0k9", "1:s9s", "0d0-9", 0);
        lack("1w,0;b9d0k9", "1:s", "0d0-0", NONE);
    }

    @Says("over DAYS 0 to d alone (by STANDS as they are)")
    void p19_standsAsTheyAre() {
        FieldOvens x = made("1w,9w;b9d0k9", "1:sf2");
        x.plan(3, 1, 0);
        due("a best by all days", x.stand(0, 0, 11), 1);
        due("lacks on day 0", x.lack(0, 0, 0), 0);
    }

    // ---- 20 mean

    @Says("part 0 above, 1 below. OUTSIDE: what, part.")
    void p20_refusedInOrder() {
        Call right = (x, plan, march) -> x.mean(plan, march, 0, 0);
        refusedInOrder(USUAL, right, (x, plan, march) -> x.mean(plan, march, 2, 0));
        refusedInOrder(USUAL, right, (x, plan, march) -> x.mean(plan, march, 0, 2));
        lastPlanAndMarch(USUAL, (x, plan, march) -> x.mean(plan, march, 1, 1));
        FieldOvens x = made("9w,9w;b5d0k9", "1:c5c5", "0d0-0");
        for (int number : new int[] {-1, 2, LEAST, MOST}) {
            refused(x, "what " + number, OUTSIDE, () -> x.mean(0, 0, number, 0));
            refused(x, "part " + number, OUTSIDE, () -> x.mean(0, 0, 1, number));
            refused(x, "both " + number, OUTSIDE, () -> x.mean(0, 0, number, number));
        }
    }

    private void mean(FieldOvens x, int march, int what, int above, int below) {
        due("above of " + what + ", march " + march, x.mean(0, march, what, 0), above);
        due("below of " + what + ", march " + march, x.mean(0, march, what, 1), below);
    }

    @Says("MEAN of HUNGRY (what = 0), CARRIED (1), in lowest terms")
    void p20_lowestTerms() {
        // By way 0 to 3 one, none, one, none go hungry; or without a second chance one, none.
        FieldOvens x = made("0,9w;b9d0k9", "1:c5", "1d0-9");
        Check.march(x, "1:c1");
        Check.march(x, "1:c9c5");
        Check.march(x, "1:s");
        mean(x, 0, 0, 1, 2);
        mean(x, 1, 0, 9, 10);
        mean(x, 2, 0, 1, 10);
        mean(x, 3, 0, 1, 1);
        // By way 0 to 3 none, 1, none, 2 go hungry, and none, 1, 1, none is carried.
        FieldOvens y = made("9w,0,0;b9d0k1", "1:c1c1", "0d0-0");
        Check.march(y, "99:c9c9");
        mean(y, 0, 0, 11, 100);
        mean(y, 0, 1, 9, 50);
        y.flour(0, 0);
        mean(y, 1, 0, 198, 1);
    }

    @Says("MEAN: HUNGRY, CARRIED over all WAYS by their chances.")
    void p20_eachWayByItsChance() {
        // By way 0 to 3 none, 1, none, 2 go hungry, and none, 1, 1, none is carried.
        FieldOvens x = made("9w,0,0;b9d0k1", "1:c9c1", "0d0-0");
        Check.march(x, "1:c1c9");
        Check.march(x, "1:c9c9");
        mean(x, 0, 0, 81 + 2 * 9, 100);
        mean(x, 0, 1, (81 + 1) / 2, 50);
        mean(x, 1, 0, 1 + 2 * 9, 100);
        mean(x, 2, 0, 9 + 2 * 81, 100);
    }

    @Says("MEAN of HUNGRY (what = 0), CARRIED (1), in lowest terms")
    void p20_ofNothing() {
        FieldOvens x = made("9w,9w;b9d0k9", "1:c5c5", "0d0-9,1d0-9");
        Check.march(x, "1:s");
        for (int march = 0; march <= 1; march++) {
            mean(x, march, 0, 0, 1);
            mean(x, march, 1, 0, 1);
        }
    }

    // ---- 21 worst

    @Says("WORST: what = 0 the WAY, 1 its HUNGRY. OUTSIDE: what.")
    void p21_refusedInOrder() {
        refusedInOrder(USUAL, (x, plan, march) -> x.worst(plan, march, 0), (x, plan, march) -> x.worst(plan, march, 2));
        lastPlanAndMarch(USUAL, (x, plan, march) -> x.worst(plan, march, 1));
        FieldOvens x = made("9w,9w;b5d0k9", "1:c5c5", "0d0-0");
        for (int what : new int[] {-1, 2, LEAST, MOST}) {
            refused(x, "what " + what, OUTSIDE, () -> x.worst(0, 0, what));
        }
    }

    @Says("WORST: the WAY of most HUNGRY, of like ones the least.")
    void p21_theLeastWayAndTheLast() {
        FieldOvens last = made("9w,0,0;b9d0k1", "1:c1c1", "0d0-0");
        due("the way on", last.worst(0, 0, 0), 3);
        due("its hungry", last.worst(0, 0, 1), 2);
        FieldOvens like = made("0,9w;b9d0k9", "1:c5c5", "1d0-9");
        due("the least of 0 and 2", like.worst(0, 0, 0), 0);
        due("their hungry", like.worst(0, 0, 1), 1);
        FieldOvens middle = made("9w,0;b9d0k1", "1:c1c1", "0d0-0");
        due("the least of 1 and 3", middle.worst(0, 0, 0), 1);
        due("their hungry, too", middle.worst(0, 0, 1), 1);
        FieldOvens sure = made("0w,0;b9d0k1", "99:s9s", "0d0-0");
        due("no chance", sure.worst(0, 0, 0), 0);
        due("all", sure.worst(0, 0, 1), 990);
    }

    // ---- 22 run

    private static long next(long seed) {
        return (1103515245L * seed + 12345) % (1L << 31);
    }

    private static long draw(long seed) {
        return next(seed) / 65536 % 10;
    }

    @Says("OUTSIDE: seed (below 0), what.")
    void p22_refusedInOrder() {
        Call right = (x, plan, march) -> x.run(plan, march, 0, 0);
        refusedInOrder(USUAL, right, (x, plan, march) -> x.run(plan, march, -1, 0));
        refusedInOrder(USUAL, right, (x, plan, march) -> x.run(plan, march, 0, 3));
        lastPlanAndMarch(USUAL, (x, plan, march) -> x.run(plan, march, MOST, 2));
        FieldOvens x = made("9w,9w;b5d0k9", "1:c5c5", "0d0-0");
        for (int seed : new int[] {-1, LEAST}) {
            for (int what = 0; what <= 2; what++) {
                int of = what;
                refused(x, "seed " + seed, OUTSIDE, () -> x.run(0, 0, seed, of));
            }
        }
        for (int what : new int[] {-1, 3, LEAST, MOST}) {
            refused(x, "what " + what, OUTSIDE, () -> x.run(0, 0, 0, what));
        }
    }

    @Says("its rest by 2 to the 31.")
    void p22_theFirstSeedAndTheLast() {
        FieldOvens x = made("9w,9w;b5d0k9", "1:s", "0d0-0");
        Check.march(x, "1:c5");
        Check.march(x, "1:c5c5");
        for (int seed : new int[] {0, 1, MOST - 1, MOST}) {
            due("no chance, seed " + seed, x.run(0, 0, seed, 2), seed);
            due("one chance, seed " + seed, x.run(0, 1, seed, 2), next(seed));
            due("two chances, seed " + seed, x.run(0, 2, seed, 2), next(next(seed)));
        }
        due("no chance: way", x.run(0, 0, MOST, 0), 0);
        due("no chance: hungry", x.run(0, 0, MOST, 1), 0);
    }

    @Says("in order, it goes forward, if a DRAW of 10 is below its tenths: that WAY.")
    void p22_aDrawBelowItsTenths() {
        for (int tenths = 1; tenths <= 9; tenths++) {
            FieldOvens x = made("9w,9w;b5d0k9", "1:c" + tenths, "0d0-0");
            for (int drawn = 0; drawn <= 9; drawn++) {
                int seed = 0;
                while (draw(seed) != drawn) seed++;
                due("draw " + drawn + " of " + tenths, x.run(0, 0, seed, 0), drawn < tenths ? 1 : 0);
                due("its hungry", x.run(0, 0, seed, 1), drawn < tenths ? 1 : 0);
            }
        }
    }

    @Says("A DRAW of d: the next SEED, by 65536 (rounded down), its rest by d")
    void p22_roundedDown() {
        // Seeds whose next one, rounded down or up, is drawn as 9: only by the first it stands.
        FieldOvens x = made("9w,9w;b5d0k9", "1:c9", "0d0-0");
        for (int seed = 0, found = 0; found < 20; seed++) {
            long next = next(seed);
            if (next / 65536 % 10 != 9 && (next + 65535) / 65536 % 10 != 9) continue;
            due("seed " + seed, x.run(0, 0, seed, 0), next / 65536 % 10 == 9 ? 0 : 1);
            found++;
        }
    }

    @Says("for each DAY by chance, in order, it goes forward, if a DRAW of 10 is below its tenths")
    void p22_theFirstDrawIsTheFirstBit() {
        FieldOvens x = made("9w,9w;b5d0k9", "1:c5c5", "0d0-0");
        for (int seed = 0; seed < 40; seed++) {
            int way = (draw(seed) < 5 ? 1 : 0) + (draw(next(seed)) < 5 ? 2 : 0);
            due("seed " + seed, x.run(0, 0, seed, 0), way);
        }
    }
}
