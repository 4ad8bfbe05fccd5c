import java.util.ArrayList;
import java.util.List;
import java.util.function.Supplier;
import java.util.function.ToIntFunction;

/**
 * "Refusals, of several the first as told by each call: ..; they change nothing." Of two objects made alike one is asked
 * for what it must refuse; whatever is asked of both then is answered alike.
 */
public final class RefusedTest {
    private static final Check CHECK = new Check("refused");
    private static final int UNKNOWN = FieldOvens.UNKNOWN, OUTSIDE = FieldOvens.OUTSIDE;
    private static final int STATE = FieldOvens.STATE, FULL = FieldOvens.FULL;
    private static final int MORE_UNKNOWN = -100001, MORE_OUTSIDE = -100002, MORE_STATE = -100003;
    private static final int[] BEYOND = {-1, 99, Integer.MIN_VALUE, Integer.MAX_VALUE};

    private record Refusal(String call, int want, ToIntFunction<FieldOvens> asked) {
    }

    private static final List<Refusal> REFUSALS = new ArrayList<>();

    public static void main(String[] args) {
        ofTheEmpty();
        refuse("nothing is there", FieldOvens::new);
        ofNoLand();
        refuse("no land", RefusedTest::withoutALand);
        ofAnyLand();
        ofTheThirtyTimes();
        ofAFullPage();
        refuse("all is full", () -> full("1:" + "m11".repeat(19) + "f"));
        ofAnyLand();
        ofTheThirtyTimes();
        ofAToldPage();
        refuse("all is full, a told plan on the page", () -> full("7d9-9"));
        CHECK.end();
    }

    private static void refuse(String state, Supplier<FieldOvens> made) {
        for (Refusal refusal : REFUSALS) {
            FieldOvens asked = made.get(), other = made.get();
            String name = state + ": " + refusal.call;
            CHECK.due(name, refusal.asked.applyAsInt(asked), refusal.want);
            CHECK.yes(name + " changes nothing", whole(asked).equals(whole(other)));
        }
        REFUSALS.clear();
    }

    /** What an object tells, and what it answers to calls that change it then; below 512 calls with what made it. */
    private static List<Long> whole(FieldOvens x) {
        List<Long> told = new ArrayList<>();
        told.add(x.digest());
        for (int march = 0; march < 4; march++) {
            for (int what = 0; what <= 21; what++) told.add((long) x.marchTold(march, what));
        }
        for (int plan = 0; plan < 8; plan++) {
            for (int what : new int[] {0, 11, 12, 13, 21}) told.add((long) x.stand(plan, 0, what));
            for (int way = 0; way < 4; way++) told.add((long) x.hungry(plan, 0, way));
            for (int kind = 0; kind <= 4; kind++) told.add((long) x.as(plan, kind));
        }
        told.add((long) x.restore());
        told.add(x.digest());
        told.add((long) x.blank());
        told.add((long) Check.march(x, "3:f"));
        told.add((long) x.blank());
        told.add((long) Check.told(x, "0d0-1"));
        told.add((long) x.blank());
        told.add((long) Check.land(x, "5w,5;b1d0k1"));
        told.add((long) x.which(0));
        told.add(x.digest());
        return told;
    }

    private static FieldOvens withoutALand() {
        FieldOvens x = new FieldOvens();
        Check.march(x, "2:c3c4");
        x.plan(0, 1, 0);
        Check.told(x, "0d0-0");
        Check.write(x, "5w,6");
        return x;
    }

    private static FieldOvens full(String page) {
        FieldOvens x = new FieldOvens();
        Check.land(x, "30w,12w,1,3w,44w,5,66w,7w;b9d1k3r20");
        Check.march(x, "20:f2c3m30f2b2s2c5");
        Check.march(x, "9:s9f");
        Check.march(x, "1:c9");
        Check.march(x, "5:f");
        x.plan(0, 3, 1);
        x.plan(1, 2, 2);
        x.plan(2, 3, 9);
        x.plan(3, 1, 0);
        x.plan(3, 2, 0);
        x.plan(0, 1, 0);
        Check.told(x, "0d0-9,1d0-9,3d1-5,4d2-8,7d7-7,2d0-9");
        Check.told(x, "7d99-99");
        x.image();
        x.flour(0, 17);
        x.flour(7, 0);
        for (int i = 0; i < 30; i++) x.far(i % 8, 1);
        Check.write(x, page);
        return x;
    }

    private static void add(String call, int want, ToIntFunction<FieldOvens> asked) {
        REFUSALS.add(new Refusal(call, want, asked));
    }

    /** What is refused in each state. */
    private static void always() {
        add("letters(127)", OUTSIDE, x -> x.letters(127));
        add("letters(-1)", OUTSIDE, x -> x.letters(-1));
        add("letters(a behind a 0)", OUTSIDE, x -> x.letters('a' << 16));
        add("land()", STATE, FieldOvens::land);
        for (int number : BEYOND) {
            add("fault(" + number + ")", OUTSIDE, x -> x.fault(number));
            add("plan(" + number + ", 1, 1)", OUTSIDE, x -> x.plan(number, 1, 1));
            add("plan(0, " + number + ", 0)", OUTSIDE, x -> x.plan(0, number, 0));
            add("plan(1, 1, " + number + ")", OUTSIDE, x -> x.plan(1, 1, number));
            add("as(" + number + ", 0)", UNKNOWN, x -> x.as(number, 0));
            add("place(" + number + ", 0)", UNKNOWN, x -> x.place(number, 0));
            add("flour(" + number + ", 5)", UNKNOWN, x -> x.flour(number, 5));
            add("marchTold(" + number + ", 0)", UNKNOWN, x -> x.marchTold(number, 0));
            add("count(" + number + ")", OUTSIDE, x -> x.count(number));
            ofUnknownPlan(number, 0);
            ofUnknownMarch(0, number);
            add("far(" + number + ", 1)", UNKNOWN, x -> x.far(number, 1));
        }
    }

    private static void ofUnknownPlan(int plan, int march) {
        ofUnknownMarch(plan, march);
        add("far(" + plan + ", 1)", UNKNOWN, x -> x.far(plan, 1));
    }

    private static void ofUnknownMarch(int plan, int march) {
        String both = "(" + plan + ", " + march + ")";
        add("stand" + both, UNKNOWN, x -> x.stand(plan, march, 0));
        add("bakes" + both, UNKNOWN, x -> x.bakes(plan, march, 0, 0));
        add("hungry" + both, UNKNOWN, x -> x.hungry(plan, march, 0));
        add("carried" + both, UNKNOWN, x -> x.carried(plan, march, 0));
        add("lack" + both, UNKNOWN, x -> x.lack(plan, march, 0));
        add("mean" + both, UNKNOWN, x -> x.mean(plan, march, 0, 0));
        add("worst" + both, UNKNOWN, x -> x.worst(plan, march, 0));
        add("run" + both, UNKNOWN, x -> x.run(plan, march, 0, 0));
        add("ahead" + both, UNKNOWN, x -> x.ahead(plan, march));
        add("burnt" + both, UNKNOWN, x -> x.burnt(plan, march, 0));
        add("more" + both, MORE_UNKNOWN, x -> x.more(plan, march, 1));
        if (march != 0) {
            add("which(" + march + ")", UNKNOWN, x -> x.which(march));
            add("at(" + march + ", 0, 0)", UNKNOWN, x -> x.at(march, 0, 0));
        }
    }

    private static void ofTheEmpty() {
        always();
        ofUnknownPlan(0, 0);
        add("march()", STATE, FieldOvens::march);
        add("tell()", STATE, FieldOvens::tell);
        add("as(0, 0)", UNKNOWN, x -> x.as(0, 0));
        add("landTold(0)", STATE, x -> x.landTold(0));
        add("place(0, 0)", UNKNOWN, x -> x.place(0, 0));
        add("flour(0, 0)", UNKNOWN, x -> x.flour(0, 0));
        add("marchTold(0, 0)", UNKNOWN, x -> x.marchTold(0, 0));
        add("at(0, 0, 0)", UNKNOWN, x -> x.at(0, 0, 0));
        add("which(0)", UNKNOWN, x -> x.which(0));
        add("image()", STATE, FieldOvens::image);
        add("restore()", STATE, FieldOvens::restore);
    }

    private static void ofNoLand() {
        always();
        add("march()", STATE, FieldOvens::march);
        add("tell()", STATE, FieldOvens::tell);
        add("landTold(9)", STATE, x -> x.landTold(9));
        add("place(0, 0)", UNKNOWN, x -> x.place(0, 0));
        add("flour(0, 0)", UNKNOWN, x -> x.flour(0, 0));
        add("at(0, 9, 0)", STATE, x -> x.at(0, 9, 0));
        add("at(0, 0, 2)", UNKNOWN, x -> x.at(0, 0, 2));
        add("stand(0, 0, 9)", STATE, x -> x.stand(0, 0, 9));
        add("bakes(0, 0, 9, 9)", STATE, x -> x.bakes(0, 0, 9, 9));
        add("hungry(0, 0, 9)", STATE, x -> x.hungry(0, 0, 9));
        add("carried(0, 0, 9)", STATE, x -> x.carried(0, 0, 9));
        add("lack(0, 0, 9)", STATE, x -> x.lack(0, 0, 9));
        add("mean(0, 0, 9, 9)", STATE, x -> x.mean(0, 0, 9, 9));
        add("worst(0, 0, 9)", STATE, x -> x.worst(0, 0, 9));
        add("run(0, 0, -9, 9)", STATE, x -> x.run(0, 0, -9, 9));
        add("ahead(0, 0)", STATE, x -> x.ahead(0, 0));
        add("far(0, 0)", STATE, x -> x.far(0, 0));
        add("burnt(0, 0, 9)", STATE, x -> x.burnt(0, 0, 9));
        add("more(0, 0, 9)", MORE_STATE, x -> x.more(0, 0, 9));
        add("which(0)", STATE, x -> x.which(0));
        add("image()", STATE, FieldOvens::image);
        add("restore()", STATE, FieldOvens::restore);
    }

    private static void ofAnyLand() {
        always();
        ofUnknownPlan(8, 0);
        ofUnknownMarch(0, 4);
        add("plan(0, 1, 0)", FULL, x -> x.plan(0, 1, 0));
        for (int number : BEYOND) {
            add("as(0, " + number + ")", OUTSIDE, x -> x.as(0, number));
            add("landTold(" + number + ")", OUTSIDE, x -> x.landTold(number));
            add("place(0, " + number + ")", OUTSIDE, x -> x.place(0, number));
            add("marchTold(0, " + number + ")", OUTSIDE, x -> x.marchTold(0, number));
            add("at(0, 0, " + number + ")", UNKNOWN, x -> x.at(0, 0, number));
            add("at(0, " + number + ", 0)", OUTSIDE, x -> x.at(0, number, 0));
            add("stand(0, 0, " + number + ")", OUTSIDE, x -> x.stand(0, 0, number));
            add("bakes(0, 0, " + number + ", 0)", UNKNOWN, x -> x.bakes(0, 0, number, 0));
            add("bakes(0, 0, 0, " + number + ")", UNKNOWN, x -> x.bakes(0, 0, 0, number));
            add("hungry(0, 0, " + number + ")", OUTSIDE, x -> x.hungry(0, 0, number));
            add("carried(0, 0, " + number + ")", OUTSIDE, x -> x.carried(0, 0, number));
            add("lack(0, 0, " + number + ")", OUTSIDE, x -> x.lack(0, 0, number));
            add("mean(0, 0, " + number + ", 0)", OUTSIDE, x -> x.mean(0, 0, number, 0));
            add("mean(0, 0, 0, " + number + ")", OUTSIDE, x -> x.mean(0, 0, 0, number));
            add("worst(0, 0, " + number + ")", OUTSIDE, x -> x.worst(0, 0, number));
            add("run(0, 0, 0, " + number + ")", OUTSIDE, x -> x.run(0, 0, 0, number));
        }
        for (int v : new int[] {-1, 1000, Integer.MIN_VALUE, Integer.MAX_VALUE}) {
            add("flour(0, " + v + ")", OUTSIDE, x -> x.flour(0, v));
        }
        add("run(0, 0, -1, 0)", OUTSIDE, x -> x.run(0, 0, -1, 0));
    }

    private static void ofTheThirtyTimes() {
        add("ahead(0, 0)", STATE, x -> x.ahead(0, 0));
        add("far(0, 1)", STATE, x -> x.far(0, 1));
        add("far(0, 0)", OUTSIDE, x -> x.far(0, 0));
        add("far(0, 100)", OUTSIDE, x -> x.far(0, 100));
        add("burnt(0, 0, 1)", STATE, x -> x.burnt(0, 0, 1));
        add("burnt(0, 0, 2)", OUTSIDE, x -> x.burnt(0, 0, 2));
        add("more(5, 0, 0)", MORE_STATE, x -> x.more(5, 0, 0));
        add("more(0, 0, 0)", MORE_STATE, x -> x.more(0, 0, 0));
        add("more(3, 0, 0)", MORE_STATE, x -> x.more(3, 0, 0));
        add("more(6, 0, 0)", MORE_STATE, x -> x.more(6, 0, 0));
        add("more(0, 0, 5)", MORE_OUTSIDE, x -> x.more(0, 0, 5));
        add("which(0)", STATE, x -> x.which(0));
    }

    private static void ofAFullPage() {
        add("letters(one)", FULL, x -> x.letters('a'));
        add("letters(eight)", FULL, x -> x.letters(Check.packed("abcdefgh")));
        add("march()", FULL, FieldOvens::march);
        add("tell()", STATE, FieldOvens::tell);
    }

    private static void ofAToldPage() {
        add("march()", STATE, FieldOvens::march);
        add("tell()", FULL, FieldOvens::tell);
    }
}
