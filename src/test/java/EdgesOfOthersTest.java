import java.math.BigInteger;
import java.util.ArrayList;
import java.util.List;

/** The boundaries of promises 23 to 31: what else could be, and what is told. */
public final class EdgesOfOthersTest extends Edges {
    private EdgesOfOthersTest() {
        super("edges of others");
    }

    public static void main(String[] args) throws Exception {
        new EdgesOfOthersTest().play(23, 31);
    }

    /** The last of thirty times is done, the next is not, by any of the five. */
    private void thirtyTimes(Call call, int state, Call wrong, int outside) {
        FieldOvens x = made("9w,9w;b5d0k9", "2:f2", "0d0-0");
        for (int i = 0; i < 29; i++) x.far(0, 1);
        due("29 times", x.count(5), 29);
        due("the thirtieth", call.ask(x, 0, 0) >= NONE ? 1 : 0, 1);
        due("30 times", x.count(5), 30);
        refused(x, "the 31st", state, () -> call.ask(x, 0, 0));
        refused(x, "what is wrong is told ahead of it", outside, () -> wrong.ask(x, 0, 0));
        Check.land(x, "9w,9w;b5d0k9");
        refused(x, "in another land, too", state, () -> call.ask(x, 0, 0));
    }

    /** A call that is refused is not counted as done. */
    private void notDone(Call right, Call wrong) {
        FieldOvens x = made("9w,9w;b5d0k9", "2:f2", "0d0-0");
        wrong.ask(x, 0, 0);
        due("a refused one", x.count(5), 0);
        right.ask(x, 0, 0);
        due("one that is not", x.count(5), 1);
    }

    private static int ahead(FieldOvens x, int plan, int march) {
        return x.ahead(plan, march);
    }

    // ---- 23 ahead

    private void ahead(String land, String march, String told, int days) {
        due(told + " for " + march + " in " + land, made(land, march, told).ahead(0, 0), days);
    }

    @Says("(STATE, too: these five were done 30 times together)")
    void p23_refusedInOrder() {
        Call unknown = (x, plan, march) -> x.ahead(plan, march + 1);
        FieldOvens x = new FieldOvens();
        refused(x, "no plan, no march", UNKNOWN, () -> x.ahead(0, 0));
        x.plan(0, 1, 0);
        refused(x, "no march", UNKNOWN, () -> x.ahead(0, 0));
        Check.march(x, "1:s");
        refused(x, "no land", STATE, () -> x.ahead(0, 0));
        for (int number : new int[] {-1, 1, LEAST, MOST}) {
            refused(x, "plan " + number, UNKNOWN, () -> x.ahead(number, 0));
            refused(x, "march " + number, UNKNOWN, () -> x.ahead(0, number));
        }
        lastPlanAndMarch(USUAL, EdgesOfOthersTest::ahead);
        thirtyTimes(EdgesOfOthersTest::ahead, STATE, unknown, UNKNOWN);
        notDone(EdgesOfOthersTest::ahead, unknown);
    }

    @Says({"AHEAD: the least number e (0 to 9)", "AHEAD; NONE: by none of 0 to 9."})
    void p23_0To9() {
        ahead("9w,0;b9d0k9", "1:s", "0d0-0", 0);
        ahead("9w,0;b9d0k9", "1:f", "0d0-0", 1);
        ahead("9w,0;b9d8k9", "1:s", "0d0-0", 8);
        ahead("9w,0;b9d9k9", "1:s", "0d0-0", 9);
        ahead("9w,0;b9d8k9", "1:f", "0d0-0", 9);
        ahead("9w,0;b9d9k9", "1:f", "0d0-0", NONE);
        ahead("10w,0;b1d0k9", "10:s", "0d0-0", 9);
        ahead("11w,0;b1d0k9", "11:s", "0d0-0", NONE);
        ahead("10w,0;b1d0k8", "10:s", "0d0-0", NONE);
    }

    @Says({"if each STAND was begun e DAYS sooner (and ended as it does)", "AHEAD; NONE: by none of 0 to 9."})
    void p23_endedAsItDoes() {
        ahead("9w,0;b1d0k1", "1:s2", "0d1-1", 1);
        ahead("9w,0;b9d0k1", "1:s3", "0d0-0", NONE);
        ahead("9,9;b9d0k9", "1:s", "0d0-0", NONE);
        ahead("0w,0;b9d0k9", "1:s", "0d0-0", NONE);
    }

    @Says("and FLOUR came from the TOWN e DAYS sooner, nobody goes HUNGRY by THE WAY ON.")
    void p23_flourOfTheTownSooner() {
        ahead("9,0w;b9d0k9", "1:f", "1d0-0", 1);
        ahead("9,1w;b9d0k9", "1:f", "1d0-0", 0);
        ahead("9,0,0w;b9d0k9", "1:f2", "2d0-0", 3);
        FieldOvens x = made("9,1w;b9d0k9", "1:c1", "1d0-0");
        due("by the way on", x.ahead(0, 0), 0);
    }

    @Says("AHEAD: the least number e (0 to 9)")
    void p23_allOvensAllDays() {
        // An oven at place p bakes for 19 days, and all but the last p of them are in time: 19 to 14, 99 in all.
        String land = "19w,18w,17w,16w,15w,14w;b1d0k9", told = "0d0-9,1d0-9,2d0-9,3d0-9,4d0-9,5d0-9";
        ahead(land, "10:s9m9s", told, 9);
        ahead(land, "10:s9s", told, NONE);
        ahead(land, "9:s9s", told, 8);
        ahead("19w,18w,17w,16w,15w,13w;b1d0k9", "10:s9m9s", told, NONE);
        ahead("18w,18w,17w,16w,15w,14w;b1d0k9", "10:s9m9s", told, NONE);
    }

    // ---- 24 far

    @Says("UNKNOWN: plan; STATE; OUTSIDE: men (1 to 99); STATE.")
    void p24_refusedInOrder() {
        FieldOvens x = new FieldOvens();
        refused(x, "no plan", UNKNOWN, () -> x.far(0, 1));
        refused(x, "no plan, and men 0", UNKNOWN, () -> x.far(0, 0));
        x.plan(0, 1, 0);
        refused(x, "no land", STATE, () -> x.far(0, 1));
        refused(x, "state ahead of outside", STATE, () -> x.far(0, 0));
        for (int plan : new int[] {-1, 1, LEAST, MOST}) {
            refused(x, "plan " + plan + " ahead of state", UNKNOWN, () -> x.far(plan, 0));
        }
        Check.land(x, "9w,9w;b5d0k9");
        for (int men : new int[] {-1, 0, 100, LEAST, MOST}) {
            refused(x, "men " + men, OUTSIDE, () -> x.far(0, men));
            refused(x, "unknown ahead of outside", UNKNOWN, () -> x.far(1, men));
        }
        for (int i = 1; i < 8; i++) x.plan(0, 1, 0);
        due("the last plan", x.far(7, 1), 0);
        refused(x, "the one behind it", UNKNOWN, () -> x.far(8, 1));
        thirtyTimes((y, plan, march) -> y.far(plan, 99), STATE, (y, plan, march) -> y.far(plan, 100), OUTSIDE);
        notDone((y, plan, march) -> y.far(plan, 1), (y, plan, march) -> y.far(plan, 0));
    }

    private void far(String land, String told, int men, int places) {
        FieldOvens x = new FieldOvens();
        Check.land(x, land);
        Check.told(x, told);
        due(men + " by " + told + " in " + land, x.far(0, men), places);
    }

    @Says("FAR, with MEN: the greatest number of PLACES that a column of so many can go forward, a PLACE a DAY")
    void p24_noPlaceToTheLast() {
        far("9,9w;b9d0k9", "1d0-0", 1, 1);
        far("9,0w;b9d0k9", "1d0-0", 1, 0);
        far("9w,9;b9d0k9", "0d0-0", 1, 0);
        far("0,7w,0,0,0,0,0,0;b9d0k9", "1d0-0", 1, 7);
        far("0,6w,0,0,0,0,0,0;b9d0k9", "1d0-0", 1, 6);
        far("0,99w;b99d0k9", "1d0-0", 99, 1);
        far("0,98w;b99d0k9", "1d0-0", 99, 0);
    }

    @Says("so that on none of these DAYS anybody is HUNGRY")
    void p24_onNoneOfTheseDays() {
        far("0,2w,0;b9d0k9", "1d0-0", 1, 2);
        far("0,1w,9w;b9d0k9", "1d0-0,2d1-1", 1, 2);
        far("0,0w,9w;b9d0k9", "1d0-0,2d0-1", 1, 0);
        far("0,0w;b9d0k9r999", "1d0-0", 1, 0);
        far("0,5w,0;b9d0k9", "1d0-0", 3, 1);
    }

    @Says("(STANDS of that march, which goes up to the last PLACE)")
    void p24_standsOfThatMarch() {
        FieldOvens x = new FieldOvens();
        Check.land(x, "0w,9w,9w;b9d0k9");
        x.plan(1, 1, 1);
        x.plan(2, 1, 9);
        x.plan(2, 1, 1);
        due("follow: at place 1 on day 0", x.far(0, 1), 2);
        due("leap: at place 2 from day 0", x.far(1, 1), 0);
        due("leap: no nearer by a stay of 1", x.far(2, 1), 0);
        Check.land(x, "0w,9w,9;b9d0k9");
        due("leap: no wood at place 2", x.far(1, 1), 2);
    }

    // ---- 25 burnt

    @Says("BURNT: what = 0 the PLACE, 1 how much more. OUTSIDE: what.")
    void p25_refusedInOrder() {
        Call right = (x, plan, march) -> x.burnt(plan, march, 0), wrong = (x, plan, march) -> x.burnt(plan, march, 2);
        refusedInOrder(USUAL, right, wrong);
        lastPlanAndMarch(USUAL, right);
        thirtyTimes(right, STATE, wrong, OUTSIDE);
        notDone(right, wrong);
        FieldOvens x = made("9w,9w;b5d0k9", "1:s", "0d0-0");
        for (int what : new int[] {-1, 2, LEAST, MOST}) {
            refused(x, "what " + what, OUTSIDE, () -> x.burnt(0, 0, what));
        }
    }

    private void burnt(String land, String march, String told, int place, int more) {
        FieldOvens x = made(land, march, told);
        String name = told + " for " + march + " in " + land;
        long before = x.digest();
        due("place: " + name, x.burnt(0, 0, 0), place);
        due("more: " + name, x.burnt(0, 0, 1), more);
        // How often the five were done is the last number of the digest.
        due("nothing but that it was done twice: digest()", x.digest(), before + 2);
    }

    @Says("BURNT: the PLACE but the TOWN without whose FLOUR HUNGRY by THE WAY ON is most more")
    void p25_theFirstAndTheLastPlaceButTheTown() {
        burnt("9w,0;b9d0k9", "1:s", "0d0-0", 1, 0);
        burnt("0,9w;b9d0k9", "1:f", "1d0-0", 1, 1);
        burnt("9w,0,0,0,0,0,0,9w;b9d0k9", "1:f9f", "7d0-9", 7, 4);
        burnt("0w,0w,990w;b99d0k9", "99:f9f", "2d0-9", 2, 99 * 9);
    }

    @Says("is most more; of like ones the least.")
    void p25_ofLikeOnesTheLeast() {
        burnt("9w,9,9,9,9,9,9,9;b9d0k9", "1:s", "0d0-0", 1, 0);
        burnt("0,0w,1w,1w;b9d0k9", "1:f3s7", "2d0-9,3d0-9", 2, 1);
    }

    // ---- 26 more

    @Says({"-100001: UNKNOWN; -100002: OUTSIDE; -100003: STATE (no LAND, ahead of OUTSIDE;", "30 times)."})
    void p26_refusedInOrder() {
        Answers answers = new Answers(MORE_UNKNOWN, MORE_STATE, MORE_OUTSIDE);
        Call right = (x, plan, march) -> x.more(plan, march, 1), wrong = (x, plan, march) -> x.more(plan, march, 5);
        refusedInOrder(answers, right, wrong);
        lastPlanAndMarch(answers, right);
        thirtyTimes(right, MORE_STATE, wrong, MORE_OUTSIDE);
        notDone(right, wrong);
        FieldOvens x = made("9w,9w;b5d0k9", "1:s", "0d0-0");
        for (int what : new int[] {-1, 5, LEAST, MOST}) {
            refused(x, "what " + what, MORE_OUTSIDE, () -> x.more(0, 0, what));
        }
    }

    @Says({"behind it: what 0 of a BEST, a TOLD, or of three OVENS;", "0 one OVEN more (three at most; not of a BEST, a TOLD)"})
    void p26_oneOvenMore() {
        FieldOvens x = made("99w,0;b2d0k9", "9:s", "0d0-0");
        x.plan(3, 1, 0);
        x.plan(3, 2, 0);
        for (int kind = 0; kind <= 2; kind++) x.plan(kind, 3, kind == 0 ? 0 : 1);
        for (int plan = 0; plan < 6; plan++) {
            int of = plan;
            refused(x, "plan " + plan, MORE_STATE, () -> x.more(of, 0, 0));
        }
        due("none was done", x.count(5), 0);
        due("other things of them", x.more(3, 0, 1), 3);
        FieldOvens y = made("99w,0;b2d0k9", "9:s");
        for (int kind = 0; kind <= 2; kind++) {
            y.plan(kind, 1, kind == 0 ? 0 : 1);
            y.plan(kind, 2, kind == 0 ? 0 : 1);
        }
        for (int plan = 0; plan < 6; plan++) due("of plan " + plan, y.more(plan, 0, 0), 2);
        due("the plan stays", y.hungry(1, 0, 0), 5);
    }

    private void more(String land, String march, String told, int what, int less) {
        FieldOvens x = made(land, march, told);
        long before = x.digest();
        due("what " + what + ", " + told + " for " + march + " in " + land, x.more(0, 0, what), less);
        // How often the five were done is the last number of the digest.
        due("nothing but that it was done once: digest()", x.digest(), before + 1);
    }

    @Says("1 BAKES 1 more, 2 KEEP 1 more, 3 10 FLOUR more in the TOWN, 4 BUILD 1 less (0 at least).")
    void p26_oneMoreOfTheMost() {
        more("999w,0;b99d0k9", "99:s2", "0d0-0", 1, 1);
        more("999w,0;b98d0k9", "99:s", "0d0-0", 1, 1);
        more("999w,0;b99d0k9", "99:s9s", "0d0-0", 2, 0);
        more("999w,0;b99d0k8", "9:s9s", "0d0-0", 2, 9);
        more("999w,0;b99d0k9", "99:s9s", "0d0-9", 3, 0);
        more("0w,0;b99d0k9", "11:s", "0d0-0", 3, 10);
        more("989w,0;b99d0k9", "99:s9s", "0d0-9", 3, 1);
        more("9w,0;b9d0k9", "9:s2", "0d0-0", 4, 0);
        more("9w,0;b9d1k9", "9:s", "0d0-0", 4, 9);
        more("9w,0;b9d9k9", "9:s9s", "0d0-9", 4, 0);
        more("99w,0;b9d9k9", "9:s9s", "0d0-9", 4, 9);
    }

    // ---- 27 which

    @Says({"WHICH; NONE: there is no PLAN. UNKNOWN: march.", "Without a LAND: STATE behind UNKNOWN."})
    void p27_refusedInOrder() {
        FieldOvens x = new FieldOvens();
        refused(x, "no march", UNKNOWN, () -> x.which(0));
        x.plan(0, 1, 0);
        refused(x, "no march, a plan", UNKNOWN, () -> x.which(0));
        Check.march(x, "1:s");
        refused(x, "no land", STATE, () -> x.which(0));
        for (int march : new int[] {-1, 1, LEAST, MOST}) {
            refused(x, "unknown ahead of state", UNKNOWN, () -> x.which(march));
        }
        Check.land(x, "9w,9w;b5d0k9");
        for (int march : new int[] {-1, 1, LEAST, MOST}) {
            refused(x, "march " + march, UNKNOWN, () -> x.which(march));
        }
        for (int i = 1; i < 4; i++) Check.march(x, "1:s");
        due("the last march", x.which(3), 0);
        refused(x, "the one behind it", UNKNOWN, () -> x.which(4));
        thirtyTimes((y, plan, march) -> y.which(march), STATE, (y, plan, march) -> y.which(1), UNKNOWN);
        notDone((y, plan, march) -> y.which(march), (y, plan, march) -> y.which(-1));
    }

    @Says("WHICH; NONE: there is no PLAN. UNKNOWN: march.")
    void p27_noPlan() {
        FieldOvens x = made("9w,9w;b5d0k9", "1:s");
        due("none", x.which(0), NONE);
        FieldOvens bare = new FieldOvens();
        Check.march(bare, "1:s");
        refused(bare, "no land, no plan", STATE, () -> bare.which(0));
    }

    @Says("WHICH for a MARCH: the PLAN of least MEAN HUNGRY, of like ones of least MEAN CARRIED, of like ones the least.")
    void p27_ofLikeOnes() {
        FieldOvens x = made("9w,9w;b5d0k9", "2:f2");
        Check.told(x, "0d0-0");
        due("the only one", x.which(0), 0);
        for (int i = 0; i < 6; i++) Check.told(x, "0d0-0");
        due("seven alike", x.which(0), 0);
        Check.told(x, "1d1-1");
        due("the last carries less", x.which(0), 7);
        FieldOvens y = made("9w,9w;b5d0k9", "2:f2");
        Check.told(y, "1d1-1");
        Check.told(y, "1d0-0");
        Check.told(y, "1d0-1");
        due("the second feeds more, the third as many", y.which(0), 1);
        FieldOvens z = made("9w,9w;b5d0k9", "1:sf");
        Check.told(z, "1d1-1");
        Check.told(z, "0d0-0");
        due("less hungry ahead of less carried", z.which(0), 1);
    }

    // ---- 28 image, 29 restore

    @Says("FLOUR of all PLACES together. STATE: there is no LAND.")
    void p28_noneAndAll() {
        FieldOvens x = new FieldOvens();
        refused(x, "no land", STATE, x::image);
        Check.land(x, "0,0;b1d0k1");
        due("no flour", x.image(), 0);
        Check.land(x, "999,999,999,999,999,999,999,999;b1d0k1");
        due("all flour", x.image(), 7992);
        Check.land(x, "1,2;b1d0k1");
        due("not of places that are gone", x.image(), 3);
    }

    @Says("An IMAGE is kept (one; the latest)")
    void p28_theLatest() {
        FieldOvens x = new FieldOvens();
        Check.land(x, "1,2;b1d0k1");
        due("the first", x.image(), 3);
        x.flour(0, 50);
        due("the second", x.image(), 52);
        x.flour(0, 70);
        due("the latest", x.restore(), 52);
        due("flour", x.place(0, 0), 50);
        due("once more", x.restore(), 52);
    }

    @Says("STATE: none was kept, or a LAND was read since (of the same text, too).")
    void p29_noneWasKept() {
        FieldOvens x = new FieldOvens();
        refused(x, "no land", STATE, x::restore);
        refused(x, "no land to be kept", STATE, x::image);
        refused(x, "none by a refused image", STATE, x::restore);
        Check.land(x, "1,2;b1d0k1");
        refused(x, "none was kept", STATE, x::restore);
    }

    @Says("STATE: none was kept, or a LAND was read since (of the same text, too).")
    void p29_aLandWasReadSince() {
        FieldOvens x = new FieldOvens();
        Check.land(x, "1,2;b1d0k1");
        x.image();
        refused(x, "an empty page is no land", STATE, x::land);
        due("it is kept", x.restore(), 3);
        Check.land(x, "1,2;b1d0k1");
        refused(x, "of the same text", STATE, x::restore);
        refused(x, "and again", STATE, x::restore);
        due("of this one", x.image(), 3);
        due("it is kept, too", x.restore(), 3);
    }

    @Says("It goes on from the IMAGE: FLOUR of all PLACES together.")
    void p29_theFirstPlaceAndTheLast() {
        FieldOvens x = made("1w,2,3,4,5,6,7,8;b1d0k1", "1:s", "0d0-0");
        Check.write(x, "page");
        x.image();
        long then = x.digest();
        due("nobody is hungry", x.hungry(0, 0, 0), 0);
        for (int place = 0; place < 8; place++) x.flour(place, 0);
        due("all are hungry", x.hungry(0, 0, 0), 1);
        due("all flour", x.restore(), 36);
        for (int place = 0; place < 8; place++) due("place " + place, x.place(place, 0), place + 1);
        due("nobody is hungry again", x.hungry(0, 0, 0), 0);
        due("nothing else changed", x.digest(), then);
    }

    // ---- 30 count

    /** As much of each thing as can be: 8 places, 4 marches, 8 plans, 60 letters, and the five done 30 times. */
    private static FieldOvens fullest() {
        FieldOvens x = new FieldOvens();
        for (int i = 0; i < 2; i++) Check.land(x, "999w,12w,1,3w,44w,5,66w,7w;b9d1k3r20");
        Check.march(x, "20:f2c3m30f2b2s2c5");
        Check.march(x, "99:s9f");
        Check.march(x, "1:c9");
        Check.march(x, "5:f");
        x.plan(0, 3, 7);
        x.plan(0, 1, 0);
        x.plan(1, 2, 2);
        x.plan(2, 3, 9);
        x.plan(3, 1, 0);
        x.plan(3, 2, 0);
        Check.told(x, "0d0-9,1d0-9,3d1-5,4d2-8,7d7-7,2d0-9");
        Check.told(x, "7d99-99");
        for (int i = 0; i < 30; i++) x.far(i % 8, 1);
        Check.write(x, "x".repeat(60));
        return x;
    }

    @Says("How many: 0 PLACES, 1 MARCHES, 2 PLANS, 3 letters of THE PAGE, 4 how often a LAND was read, "
        + "5 how often the five were done together. OUTSIDE.")
    void p30_noneAndTheMost() {
        FieldOvens x = new FieldOvens(), full = fullest();
        int[] most = {8, 4, 8, 60, 2, 30};
        for (int what = 0; what <= 5; what++) {
            due("none of " + what, x.count(what), 0);
            due("the most of " + what, full.count(what), most[what]);
        }
        for (int what : new int[] {-1, 6, LEAST, MOST}) {
            refused(x, "count(" + what + ")", OUTSIDE, () -> x.count(what));
            refused(full, "count(" + what + "), full", OUTSIDE, () -> full.count(what));
        }
    }

    @Says("4 how often a LAND was read, 5 how often the five were done together.")
    void p30_refusedOnesDoNotCount() {
        FieldOvens x = new FieldOvens();
        x.land();
        due("no land was read", x.count(4), 0);
        Check.land(x, "1w,2;b1d0k1");
        x.land();
        due("one", x.count(4), 1);
        x.ahead(0, 0);
        x.far(0, 1);
        x.burnt(0, 0, 0);
        x.more(0, 0, 1);
        x.which(0);
        due("none of the five", x.count(5), 0);
        Check.march(x, "1:s");
        x.plan(0, 1, 0);
        x.ahead(0, 0);
        x.far(0, 1);
        x.burnt(0, 0, 0);
        x.more(0, 0, 1);
        x.which(0);
        due("all five, together", x.count(5), 5);
    }

    // ---- 31 digest

    @Says("h is 397, then for each of these numbers, in order, 31 times h, and it (as longs, wrapping)")
    void p31_nothingIsThere() {
        due("a new object", new FieldOvens().digest(), 397L * 31 * 31 * 31 * 31 * 31 * 31);
    }

    @Says({"with a LAND what landTold() tells for 0 to 4, of each PLACE FLOUR, WOOD (1, 0);",
        "and with a LAND where it is on each DAY by THE WAY ON;",
        "and, not of a BEST, with a LAND and MARCH 0, how many STANDS, HUNGRY by THE WAY ON;"})
    void p31_withAndWithoutALandAndAMarch() {
        FieldOvens x = new FieldOvens();
        x.plan(0, 1, 0);
        due("a plan alone", x.digest(), digestOf(0, 1, 0, 0, 0, 1, 0, 0, 0));
        Check.march(x, "2:fc3");
        due("no land", x.digest(), digestOf(2, 2, 2, 3, 0, 1, 0, 0, 1, 1, 0, 0, 0));
        FieldOvens land = new FieldOvens();
        land.plan(0, 1, 0);
        Check.land(land, "5w,7;b3d1k2");
        due("no march", land.digest(), digestOf(2, 3, 1, 2, 0, 5, 1, 7, 0, 0, 1, 0, 2, 0, 1, 0, 1, 0));
        Check.march(land, "2:fc3");
        due("both", land.digest(),
                digestOf(2, 3, 1, 2, 0, 5, 1, 7, 0, 2, 2, 2, 3, 1, 1, 0, 1, 0, 1, 4, 2, 1, 1, 0, 1, 0));
        FieldOvens best = new FieldOvens();
        best.plan(3, 2, 0);
        Check.land(best, "5w,7;b3d1k2");
        Check.march(best, "2:f");
        due("a best", best.digest(), digestOf(2, 3, 1, 2, 0, 5, 1, 7, 0, 1, 2, 1, 3, 2, 0, 2, 1, 1, 0, 1, 0));
    }

    @Says("31 times h, and it (as longs, wrapping)")
    void p31_wrapping() {
        FieldOvens x = fullest();
        BigInteger h = BigInteger.valueOf(397);
        for (int number : numbersOf(x)) h = h.multiply(BigInteger.valueOf(31)).add(BigInteger.valueOf(number));
        due("far beyond a long", h.bitLength() > 600 ? 1 : 0, 1);
        due("digest()", x.digest(), h.longValue());
    }

    /** What digest() goes through, asked for by the other calls; the page is full of "x". */
    private static List<Integer> numbersOf(FieldOvens x) {
        List<Integer> numbers = new ArrayList<>();
        for (int what = 0; what <= 4; what++) numbers.add(x.landTold(what));
        for (int place = 0; place < x.count(0); place++) {
            for (int what = 0; what <= 1; what++) numbers.add(x.place(place, what));
        }
        for (int march = 0; march < x.count(1); march++) {
            int days = x.marchTold(march, 0), chances = x.marchTold(march, 1);
            numbers.add(days);
            for (int day = 0; day < days; day++) numbers.add(x.marchTold(march, 10 + day));
            for (int i = 0; i < chances; i++) numbers.add(x.marchTold(march, 20 + i));
            for (int day = 0; day < days; day++) numbers.add(x.at(march, (1 << chances) - 1, day));
        }
        int[][] plans = {{0, 3, 7}, {0, 1, 0}, {1, 2, 2}, {2, 3, 9}, {3, 1, 0}, {3, 2, 0}, {4, 0, 0}, {4, 0, 0}};
        for (int plan = 0; plan < 8; plan++) {
            for (int number : plans[plan]) numbers.add(number);
            if (plans[plan][0] == 3) continue;
            numbers.add(x.stand(plan, 0, 0));
            numbers.add(x.hungry(plan, 0, 3));
        }
        for (int i = 0; i < 60; i++) numbers.add((int) 'x');
        for (int what = 0; what <= 5; what++) numbers.add(x.count(what));
        return numbers;
    }
}
