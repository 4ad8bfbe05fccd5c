/** Promises 23 to 31, one method each: what else could be, and what is told. */
public final class OtherPromisesTest {
    private static final int NONE = FieldOvens.NONE, UNKNOWN = FieldOvens.UNKNOWN, OUTSIDE = FieldOvens.OUTSIDE;
    private static final int STATE = FieldOvens.STATE;
    private static final int MORE_UNKNOWN = -100001, MORE_OUTSIDE = -100002, MORE_STATE = -100003;
    private static final Check CHECK = new Check("promises 23 to 31");

    public static void main(String[] args) {
        ahead();
        far();
        burnt();
        more();
        moreOfBest();
        which();
        whichByChances();
        refusedWithoutLand();
        thirtyTimes();
        imageAndRestore();
        count();
        digest();
        CHECK.end();
    }

    private static FieldOvens made(String land, String march) {
        FieldOvens x = new FieldOvens();
        CHECK.yes(land, Check.land(x, land) > 0);
        CHECK.due(march, Check.march(x, march), 0);
        return x;
    }

    private static void ahead() {
        FieldOvens x = made("5w,5;b10d2k3", "2:f");
        CHECK.due("23: two days to build, one to go", x.ahead(Check.told(x, "0d0-9"), 0), 3);
        FieldOvens flour = made("9w,0w;b9d0k9", "1:f");
        CHECK.due("23: flour comes sooner", flour.ahead(Check.told(flour, "1d0-0"), 0), 1);
        flour.flour(1, 1);
        CHECK.due("23: at once", flour.ahead(0, 0), 0);
        flour.flour(1, 0);
        flour.flour(0, 0);
        CHECK.due("23: never", flour.ahead(0, 0), NONE);
        FieldOvens stale = made("9w,0,0,0;b9d0k2", "1:f3");
        CHECK.due("23: stale bread", stale.ahead(Check.told(stale, "0d0-9"), 0), NONE);
        FieldOvens fresh = made("9w,0,0,0;b9d0k3", "1:f3");
        CHECK.due("23: bread from the day ahead", fresh.ahead(Check.told(fresh, "0d0-9"), 0), 1);
        FieldOvens nine = made("9w,0;b1d8k9", "1:f");
        CHECK.due("23: nine days", nine.ahead(Check.told(nine, "0d0-9"), 0), 9);
        FieldOvens ten = made("9w,0;b1d9k9", "1:f");
        CHECK.due("23: ten days are too many", ten.ahead(Check.told(ten, "0d0-9"), 0), NONE);
        FieldOvens all = made("99w,0w;b1d0k9", "10:s");
        CHECK.due("23: from the ninth day ahead on", all.ahead(Check.told(all, "0d0-0"), 0), 9);
        FieldOvens late = made("9w,9w;b9d0k9", "1:s");
        CHECK.due("23: a stand that is none is not begun sooner", late.ahead(late.plan(0, 1, 1), 0), NONE);
        FieldOvens chance = made("9w,9w;b9d0k9", "1:c1");
        CHECK.due("23: by the way on", chance.ahead(Check.told(chance, "1d0-0"), 0), 0);
        CHECK.due("23: unknown plan", x.ahead(1, 0), UNKNOWN);
        CHECK.due("23: unknown march", x.ahead(0, 1), UNKNOWN);
    }

    private static void far() {
        FieldOvens x = made("9w,9w,9w,9w;b9d0k9", "1:s");
        int told = Check.told(x, "1d0-9");
        int[] men = {1, 3, 4, 9, 10, 99};
        int[] places = {3, 3, 2, 1, 0, 0};
        for (int i = 0; i < men.length; i++) CHECK.due("24: " + men[i] + " men", x.far(told, men[i]), places[i]);
        CHECK.due("24: best is never there on day 0", x.far(x.plan(3, 2, 0), 1), 0);
        CHECK.due("24: follow", x.far(x.plan(1, 1, 9), 3), 3);
        CHECK.due("24: men 0", x.far(told, 0), OUTSIDE);
        CHECK.due("24: men 100", x.far(told, 100), OUTSIDE);
        CHECK.due("24: men -1", x.far(told, -1), OUTSIDE);
        CHECK.due("24: unknown ahead of outside", x.far(3, 0), UNKNOWN);
        CHECK.due("24: biscuit is no bread", made("0w,0w;b9d0k9r999", "1:s").plan(0, 1, 0), 0);
        FieldOvens biscuit = made("0w,0w;b9d0k9r999", "1:s");
        CHECK.due("24: biscuit does not count", biscuit.far(biscuit.plan(0, 1, 0), 1), 0);
        FieldOvens eight = made("0w,9w,9w,9w,9w,9w,9w,9w;b9d0k9", "1:s");
        CHECK.due("24: to the last of eight", eight.far(Check.told(eight, "1d0-9"), 1), 7);
    }

    private static void burnt() {
        FieldOvens x = made("0w,5w,9w;b9d0k9", "2:f5");
        int told = Check.told(x, "1d0-9,2d0-9");
        CHECK.due("25: now", x.hungry(told, 0, 0), 0);
        CHECK.due("25: the place", x.burnt(told, 0, 0), 2);
        CHECK.due("25: how much more", x.burnt(told, 0, 1), 5);
        CHECK.due("25: flour stays", x.place(2, 0), 9);
        CHECK.due("25: nobody is hungry then", x.hungry(told, 0, 0), 0);
        x.flour(2, 0);
        CHECK.due("25: the other place", x.burnt(told, 0, 0), 1);
        CHECK.due("25: its bread", x.burnt(told, 0, 1), 5);
        x.flour(1, 0);
        x.flour(0, 90);
        CHECK.due("25: not the town, the least", x.burnt(told, 0, 0), 1);
        CHECK.due("25: nothing", x.burnt(told, 0, 1), 0);
        FieldOvens like = made("0w,3w,3w;b9d0k9", "2:f5");
        CHECK.due("25: of like ones", like.burnt(Check.told(like, "1d0-9,2d0-9"), 0, 0), 1);
        CHECK.due("25: what 2", x.burnt(told, 0, 2), OUTSIDE);
        CHECK.due("25: what -1", x.burnt(told, 0, -1), OUTSIDE);
        CHECK.due("25: unknown plan", x.burnt(1, 0, 2), UNKNOWN);
        CHECK.due("25: unknown march", x.burnt(0, 1, 2), UNKNOWN);
    }

    private static void more() {
        FieldOvens x = made("9w,0;b2d1k1", "3:s3");
        int base = x.plan(0, 1, 0);
        int[] less = {2, 2, 0, 0, 2};
        for (int what = 0; what < 5; what++) CHECK.due("26: what " + what, x.more(base, 0, what), less[what]);
        x.flour(0, 1);
        CHECK.due("26: 10 flour", x.more(base, 0, 3), 3);
        CHECK.due("26: the land stays", x.place(0, 0), 1);
        CHECK.due("26: bakes stay", x.landTold(1), 2);
        CHECK.due("26: five of them done", x.count(5), 6);
        FieldOvens keep = made("9w,0;b9d0k1", "3:s3");
        int told = Check.told(keep, "0d0-0");
        CHECK.due("26: keep", keep.more(told, 0, 2), 3);
        CHECK.due("26: no less build than 0", keep.more(told, 0, 4), 0);
        CHECK.due("26: an oven more of a told", keep.more(told, 0, 0), MORE_STATE);
        CHECK.due("26: of three", keep.more(keep.plan(1, 3, 1), 0, 0), MORE_STATE);
        CHECK.due("26: of a best", keep.more(keep.plan(3, 1, 0), 0, 0), MORE_STATE);
        CHECK.due("26: of a leap of two", keep.more(keep.plan(2, 2, 1), 0, 0), 0);
        CHECK.due("26: outside", keep.more(told, 0, 5), MORE_OUTSIDE);
        CHECK.due("26: outside below", keep.more(told, 0, -1), MORE_OUTSIDE);
        CHECK.due("26: unknown plan", keep.more(4, 0, 5), MORE_UNKNOWN);
        CHECK.due("26: unknown march", keep.more(0, 1, 5), MORE_UNKNOWN);
        CHECK.due("26: refused ones are not done", keep.count(5), 3);
        FieldOvens most = made("999w,0;b99d0k9", "99:s9s");
        CHECK.due("26: beyond what a text can tell", most.more(most.plan(0, 1, 0), 0, 3), 0);
        CHECK.due("26: keep 10", most.more(0, 0, 2), 0);
        CHECK.due("26: bakes 100", most.more(0, 0, 1), 0);
    }

    private static void moreOfBest() {
        // By the land as it is the oven stands at place 1; with flour in the town place 0 is better.
        FieldOvens x = made("0w,4w;b9d0k9", "2:s3f2");
        int best = x.plan(3, 1, 0);
        CHECK.due("26: best stands at", x.stand(best, 0, 11), 1);
        CHECK.due("26: best now", x.hungry(best, 0, 0), 6);
        CHECK.due("26: best chosen anew", x.more(best, 0, 3), 6);
        CHECK.due("26: best stands there still", x.stand(best, 0, 11), 1);
    }

    private static void which() {
        FieldOvens x = made("9w,9w;b5d0k9", "2:f2");
        CHECK.due("27: no plan", x.which(0), NONE);
        CHECK.due("27: that was done, too", x.count(5), 1);
        CHECK.due("27: unknown", x.which(1), UNKNOWN);
        CHECK.due("27: unknown below", x.which(-1), UNKNOWN);
        CHECK.due("27: refused ones are not done", x.count(5), 1);
        x.plan(0, 1, 0);
        CHECK.due("27: the only one", x.which(0), 0);
        x.plan(0, 1, 1);
        CHECK.due("27: less carried", x.which(0), 1);
        Check.told(x, "1d0-9");
        CHECK.due("27: less hungry", x.which(0), 2);
        Check.told(x, "1d0-9");
        CHECK.due("27: of like ones the least", x.which(0), 2);
    }

    private static void whichByChances() {
        FieldOvens x = made("9w,9w;b5d0k9", "2:c1");
        Check.march(x, "2:c9");
        Check.told(x, "1d0-0");
        Check.told(x, "0d0-0");
        CHECK.due("27: it mostly stands", x.which(0), 1);
        CHECK.due("27: it mostly goes", x.which(1), 0);
    }

    private static void refusedWithoutLand() {
        FieldOvens x = new FieldOvens();
        CHECK.due("23: unknown", x.ahead(0, 0), UNKNOWN);
        CHECK.due("24: unknown", x.far(0, 0), UNKNOWN);
        CHECK.due("25: unknown", x.burnt(0, 0, 9), UNKNOWN);
        CHECK.due("26: unknown", x.more(0, 0, 9), MORE_UNKNOWN);
        CHECK.due("27: unknown", x.which(0), UNKNOWN);
        x.plan(0, 1, 0);
        Check.march(x, "1:s");
        CHECK.due("23: state", x.ahead(0, 0), STATE);
        CHECK.due("24: state ahead of outside", x.far(0, 0), STATE);
        CHECK.due("25: state ahead of outside", x.burnt(0, 0, 9), STATE);
        CHECK.due("26: state ahead of outside", x.more(0, 0, 9), MORE_STATE);
        CHECK.due("27: state", x.which(0), STATE);
        CHECK.due("30: none was done", x.count(5), 0);
    }

    private static void thirtyTimes() {
        FieldOvens x = made("9w,9w;b5d0k9", "2:f2");
        x.plan(0, 1, 0);
        for (int i = 0; i < 6; i++) {
            CHECK.due("30: done", x.count(5), 5 * i);
            CHECK.yes("23: done", x.ahead(0, 0) >= NONE);
            CHECK.yes("24: done", x.far(0, 1) >= 0);
            CHECK.yes("25: done", x.burnt(0, 0, 1) >= 0);
            CHECK.yes("26: done", x.more(0, 0, 0) > MORE_UNKNOWN);
            CHECK.yes("27: done", x.which(0) == 0);
        }
        CHECK.due("23: thirty times", x.ahead(0, 0), STATE);
        CHECK.due("24: thirty times", x.far(0, 1), STATE);
        CHECK.due("24: outside ahead of it", x.far(0, 0), OUTSIDE);
        CHECK.due("25: thirty times", x.burnt(0, 0, 0), STATE);
        CHECK.due("25: outside ahead of it", x.burnt(0, 0, 2), OUTSIDE);
        CHECK.due("26: thirty times", x.more(0, 0, 1), MORE_STATE);
        CHECK.due("26: outside ahead of it", x.more(0, 0, 5), MORE_OUTSIDE);
        CHECK.due("27: thirty times", x.which(0), STATE);
        CHECK.due("27: unknown ahead of it", x.which(1), UNKNOWN);
        CHECK.due("30: thirty", x.count(5), 30);
        Check.land(x, "9w,9w;b5d0k9");
        CHECK.due("23: by another land, too", x.ahead(0, 0), STATE);
    }

    private static void imageAndRestore() {
        FieldOvens x = new FieldOvens();
        CHECK.due("28: no land", x.image(), STATE);
        Check.land(x, "9w,20,300;b1d0k1");
        CHECK.due("29: none kept", x.restore(), STATE);
        CHECK.due("28: all flour", x.image(), 329);
        Check.march(x, "3:s3");
        x.plan(0, 3, 0);
        CHECK.due("17: ahead of it", x.hungry(0, 0, 0), 0);
        x.flour(0, 0);
        x.flour(2, 1);
        CHECK.due("17: no flour", x.hungry(0, 0, 0), 9);
        CHECK.due("29: all flour again", x.restore(), 329);
        CHECK.due("29: flour of the town", x.place(0, 0), 9);
        CHECK.due("29: flour of the last", x.place(2, 0), 300);
        CHECK.due("17: behind it", x.hungry(0, 0, 0), 0);
        CHECK.due("29: marches stay", x.count(1), 1);
        x.flour(1, 0);
        CHECK.due("28: the latest", x.image(), 309);
        x.flour(1, 7);
        CHECK.due("29: the latest", x.restore(), 309);
        x.flour(1, 8);
        CHECK.due("29: once more", x.restore(), 309);
        Check.land(x, "no land");
        CHECK.due("29: a text that is none", x.restore(), 309);
        x.blank();
        Check.land(x, "9w,0,300;b1d0k1");
        CHECK.due("29: a land of the same text", x.restore(), STATE);
        CHECK.due("28: of the new one", x.image(), 309);
        CHECK.due("29: of the new one", x.restore(), 309);
    }

    private static void count() {
        FieldOvens x = made("9w,20,300;b1d0k1", "3:s3");
        Check.land(x, "9w,20,300,4,5;b1d0k1");
        x.plan(0, 1, 0);
        x.plan(0, 1, 0);
        x.plan(0, 1, 0);
        Check.write(x, "page");
        x.far(0, 1);
        int[] told = {5, 1, 3, 4, 2, 1};
        for (int what = 0; what <= 5; what++) CHECK.due("30: count(" + what + ")", x.count(what), told[what]);
        CHECK.due("30: count(6)", x.count(6), OUTSIDE);
        CHECK.due("30: count(-1)", x.count(-1), OUTSIDE);
    }

    private static long digestOf(int... numbers) {
        long h = 397;
        for (int number : numbers) h = 31 * h + number;
        return h;
    }

    private static void digest() {
        FieldOvens x = new FieldOvens();
        x.plan(0, 1, 0);
        Check.march(x, "2:fc3");
        x.plan(3, 1, 0);
        Check.told(x, "0d0-1");
        Check.write(x, "x");
        CHECK.due("31: without a land", x.digest(),
                digestOf(2, 2, 2, 3, 0, 1, 0, 3, 1, 0, 4, 0, 0, 'x', 0, 1, 3, 1, 0, 0));
        x.blank();
        Check.land(x, "5w,7;b3d1k2r4");
        Check.write(x, "xy");
        long then = digestOf(2, 3, 1, 2, 4, 5, 1, 7, 0, 2, 2, 2, 3, 1, 1,
                0, 1, 0, 1, 4, 3, 1, 0, 4, 0, 0, 1, 4, 'x', 'y', 2, 1, 3, 2, 1, 0);
        CHECK.due("31: with a land", x.digest(), then);
        CHECK.due("31: it changes nothing", x.digest(), then);
        FieldOvens bare = new FieldOvens();
        Check.land(bare, "5w,7;b3d1k2r4");
        bare.plan(2, 3, 9);
        CHECK.due("31: without a march", bare.digest(), digestOf(2, 3, 1, 2, 4, 5, 1, 7, 0, 2, 3, 9, 2, 0, 1, 0, 1, 0));
    }
}
