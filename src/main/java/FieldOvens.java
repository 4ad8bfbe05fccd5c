import java.util.Arrays;

/** Ovens that follow a column along a road: what a plan of stands can bake, carry and feed. */
public final class FieldOvens {
    public static final int NONE = -1, UNKNOWN = -101, OUTSIDE = -102, STATE = -103, FULL = -104;

    private static final int MORE_UNKNOWN = -100001, MORE_OUTSIDE = -100002, MORE_STATE = -100003;
    private static final int FINE = 0;
    private static final int MARCHES = 4, PLANS = 8, WAYS = 4, FIVE_AT_MOST = 30;
    private static final int PLACES = 8, DAYS = 10, CHANCES = 2, OVENS = 3, EARLIEST = 9;
    private static final int FLOUR_AT_MOST = 999, MEN_AT_MOST = 99;

    private final Page thePage = new Page();
    private final Land theLand = new Land();
    // Read and changed in the place of THE LAND, so that a refused or supposed one leaves it alone.
    private final Land otherLand = new Land();
    private final March[] marches = new March[MARCHES];
    private final Base[] plans = new Base[PLANS];
    private final March roadMarch = new March();
    private March nextMarch = new March();
    private Told nextTold = new Told();
    private int marchCount, planCount, landsRead, fiveDone;
    private final int[] imageFlour = new int[PLACES];
    // Which LAND (by landsRead) the IMAGE is of; 0: none was kept.
    private int imageLand;
    private final Camp camp = new Camp();
    // Answers for THE LAND as it is, by plan, march (and way); NONE: not worked out yet.
    private final int[] keptHungry = new int[PLANS * MARCHES * WAYS];
    private final int[] keptCarried = new int[PLANS * MARCHES * WAYS];
    private final int[] keptChoice = new int[PLANS * MARCHES];

    public FieldOvens() {
        forget();
    }

    // ---- texts

    public int letters(long w) {
        int more = lettersIn(w);
        if (more < 0) {
            return OUTSIDE;
        }
        if (thePage.count + more > Page.ROOM) {
            return FULL;
        }
        for (int i = 0; i < more; i++) {
            thePage.put((int) (w >>> (8 * i)) & 255);
        }
        return thePage.count;
    }

    public int blank() {
        int had = thePage.count;
        thePage.count = 0;
        return had;
    }

    public int fault(int sort) {
        switch (sort) {
            case 0:
                otherLand.read(thePage);
                break;
            case 1:
                nextMarch.read(thePage);
                break;
            case 2:
                nextTold.read(thePage);
                break;
            default:
                return OUTSIDE;
        }
        return thePage.come;
    }

    public int land() {
        if (!otherLand.read(thePage)) {
            return STATE;
        }
        theLand.become(otherLand);
        landsRead++;
        thePage.count = 0;
        forget();
        return theLand.places;
    }

    public int march() {
        if (!nextMarch.read(thePage)) {
            return STATE;
        }
        if (marchCount >= MARCHES) {
            return FULL;
        }
        marches[marchCount] = nextMarch;
        nextMarch = new March();
        thePage.count = 0;
        marchCount++;
        return marchCount - 1;
    }

    public int plan(int kind, int k, int n) {
        if (kind < 0 || kind > 3 || k < 1 || k > (kind == 3 ? 2 : OVENS)) {
            return OUTSIDE;
        }
        if (n < leastNumber(kind) || n > mostNumber(kind)) {
            return OUTSIDE;
        }
        return added(madePlan(kind, k, n));
    }

    public int tell() {
        if (!nextTold.read(thePage)) {
            return STATE;
        }
        int number = added(nextTold);
        if (number >= 0) {
            nextTold = new Told();
            thePage.count = 0;
        }
        return number;
    }

    public int as(int plan, int kind) {
        Base taken = planOf(plan);
        if (taken == null) {
            return UNKNOWN;
        }
        switch (kind) {
            case 0:
                return plan;
            case 1:
                return taken instanceof Follow ? plan : NONE;
            case 2:
                return taken instanceof Leap ? plan : NONE;
            case 3:
                return taken instanceof Best ? plan : NONE;
            case 4:
                return taken instanceof Told ? plan : NONE;
            default:
                return OUTSIDE;
        }
    }

    public int landTold(int what) {
        if (theLand.places == 0) {
            return STATE;
        }
        switch (what) {
            case 0:
                return theLand.places;
            case 1:
                return theLand.bakes;
            case 2:
                return theLand.build;
            case 3:
                return theLand.keep;
            case 4:
                return theLand.biscuit;
            default:
                return OUTSIDE;
        }
    }

    public int place(int place, int what) {
        if (!theLand.has(place)) {
            return UNKNOWN;
        }
        if (what < 0 || what > 1) {
            return OUTSIDE;
        }
        return what == 0 ? theLand.flour[place] : theLand.wood[place];
    }

    public int flour(int place, int v) {
        if (!theLand.has(place)) {
            return UNKNOWN;
        }
        if (v < 0 || v > FLOUR_AT_MOST) {
            return OUTSIDE;
        }
        int was = theLand.flour[place];
        theLand.flour[place] = v;
        forget();
        return was;
    }

    public int marchTold(int march, int what) {
        March told = marchOf(march);
        if (told == null) {
            return UNKNOWN;
        }
        if (what == 0) {
            return told.days;
        }
        if (what == 1) {
            return told.chances;
        }
        if (what >= 10 && what < 10 + DAYS) {
            return what - 10 < told.days ? told.men[what - 10] : NONE;
        }
        if (what >= 20 && what < 20 + CHANCES) {
            return what - 20 < told.chances ? told.tenths[what - 20] : NONE;
        }
        return OUTSIDE;
    }

    public int at(int march, int way, int day) {
        March gone = marchOf(march);
        if (gone == null || day < 0 || day >= gone.days) {
            return UNKNOWN;
        }
        if (theLand.places == 0) {
            return STATE;
        }
        if (!gone.hasWay(way)) {
            return OUTSIDE;
        }
        gone.walk(theLand.places, way, camp.column);
        return camp.column[day];
    }

    // ---- plans

    public int stand(int plan, int march, int what) {
        int refused = refusal(plan, march);
        if (refused != FINE) {
            return refused;
        }
        int figure = what % 10;
        if (what != 0 && (what < 11 || what > 123 || figure < 1 || figure > 3)) {
            return OUTSIDE;
        }
        pitch(plan, march);
        Stands stands = camp.stands;
        if (what == 0) {
            return stands.count;
        }
        int i = what / 10 - 1;
        if (i >= stands.count) {
            return NONE;
        }
        return figure == 1 ? stands.place[i] : figure == 2 ? stands.from[i] : stands.to[i];
    }

    public int bakes(int plan, int march, int place, int day) {
        int refused = refusal(plan, march);
        if (refused != FINE) {
            return refused;
        }
        if (!theLand.has(place) || day < 0 || day >= marches[march].days) {
            return UNKNOWN;
        }
        pitch(plan, march);
        return camp.stands.bakingAt(place, day, theLand.build) * theLand.bakes;
    }

    public int hungry(int plan, int march, int way) {
        int refused = wayRefusal(plan, march, way);
        return refused != FINE ? refused : keptHungry[solved(plan, march, way)];
    }

    public int carried(int plan, int march, int way) {
        int refused = wayRefusal(plan, march, way);
        return refused != FINE ? refused : keptCarried[solved(plan, march, way)];
    }

    public int lack(int plan, int march, int way) {
        int refused = wayRefusal(plan, march, way);
        if (refused != FINE) {
            return refused;
        }
        pitch(plan, march);
        return camp.firstLack(theLand, marches[march], way, theLand.biscuit);
    }

    public int mean(int plan, int march, int what, int part) {
        int refused = refusal(plan, march);
        if (refused != FINE) {
            return refused;
        }
        if (what < 0 || what > 1 || part < 0 || part > 1) {
            return OUTSIDE;
        }
        March gone = marches[march];
        for (int way = 0; way <= gone.wayOn(); way++) {
            solved(plan, march, way);
        }
        int above = weighed(plan, march, what);
        int below = gone.allChances();
        int common = commonDivisor(above, below);
        if (common == 0) {
            return 0;
        }
        return (part == 0 ? above : below) / common;
    }

    public int worst(int plan, int march, int what) {
        int refused = refusal(plan, march);
        if (refused != FINE) {
            return refused;
        }
        if (what < 0 || what > 1) {
            return OUTSIDE;
        }
        int worstWay = 0;
        int most = keptHungry[solved(plan, march, 0)];
        for (int way = 1; way <= marches[march].wayOn(); way++) {
            int hungry = keptHungry[solved(plan, march, way)];
            if (hungry > most) {
                most = hungry;
                worstWay = way;
            }
        }
        return what == 0 ? worstWay : most;
    }

    public int run(int plan, int march, int seed, int what) {
        int refused = refusal(plan, march);
        if (refused != FINE) {
            return refused;
        }
        if (seed < 0 || what < 0 || what > 2) {
            return OUTSIDE;
        }
        March gone = marches[march];
        int way = 0;
        int next = seed;
        for (int i = 0; i < gone.chances; i++) {
            next = seedBehind(next);
            if (next / 65536 % 10 < gone.tenths[i]) {
                way |= 1 << i;
            }
        }
        if (what == 2) {
            return next;
        }
        return what == 0 ? way : keptHungry[solved(plan, march, way)];
    }

    // ---- what else could be

    public int ahead(int plan, int march) {
        int refused = refusal(plan, march);
        if (refused != FINE) {
            return refused;
        }
        if (fiveDone >= FIVE_AT_MOST) {
            return STATE;
        }
        fiveDone++;
        March gone = marches[march];
        pitch(plan, march);
        for (int early = 0; early <= EARLIEST; early++) {
            camp.feed(theLand, gone, gone.wayOn(), early);
            if (camp.hungry == 0) {
                return early;
            }
        }
        return NONE;
    }

    public int far(int plan, int men) {
        Base chosen = planOf(plan);
        if (chosen == null) {
            return UNKNOWN;
        }
        if (theLand.places == 0) {
            return STATE;
        }
        if (men < 1 || men > MEN_AT_MOST) {
            return OUTSIDE;
        }
        if (fiveDone >= FIVE_AT_MOST) {
            return STATE;
        }
        fiveDone++;
        roadMarch.goForward(theLand.places - 1, men);
        chosen.pitch(camp, theLand, roadMarch, chosen.ovens);
        int day = camp.firstLack(theLand, roadMarch, 0, 0);
        return day == NONE ? roadMarch.days : day;
    }

    public int burnt(int plan, int march, int what) {
        int refused = refusal(plan, march);
        if (refused != FINE) {
            return refused;
        }
        if (what < 0 || what > 1) {
            return OUTSIDE;
        }
        if (fiveDone >= FIVE_AT_MOST) {
            return STATE;
        }
        fiveDone++;
        int now = keptHungry[solved(plan, march, marches[march].wayOn())];
        int worstPlace = 1;
        int most = 0;
        for (int p = 1; p < theLand.places; p++) {
            if (theLand.flour[p] == 0) {
                continue;
            }
            otherLand.become(theLand);
            otherLand.flour[p] = 0;
            int more = hungryIn(otherLand, plan, march, plans[plan].ovens) - now;
            if (more > most) {
                most = more;
                worstPlace = p;
            }
        }
        return what == 0 ? worstPlace : most;
    }

    public int more(int plan, int march, int what) {
        int refused = refusal(plan, march);
        if (refused != FINE) {
            return refused == UNKNOWN ? MORE_UNKNOWN : MORE_STATE;
        }
        if (what < 0 || what > 4) {
            return MORE_OUTSIDE;
        }
        Base chosen = plans[plan];
        if (fiveDone >= FIVE_AT_MOST || what == 0 && !chosen.takesOneMore()) {
            return MORE_STATE;
        }
        fiveDone++;
        int now = keptHungry[solved(plan, march, marches[march].wayOn())];
        otherLand.become(theLand);
        otherLand.getMore(what);
        return now - hungryIn(otherLand, plan, march, what == 0 ? chosen.ovens + 1 : chosen.ovens);
    }

    public int which(int march) {
        March gone = marchOf(march);
        if (gone == null) {
            return UNKNOWN;
        }
        if (theLand.places == 0 || fiveDone >= FIVE_AT_MOST) {
            return STATE;
        }
        fiveDone++;
        int best = NONE, leastHungry = 0, leastCarried = 0;
        for (int plan = 0; plan < planCount; plan++) {
            for (int way = 0; way <= gone.wayOn(); way++) {
                solved(plan, march, way);
            }
            int hungry = weighed(plan, march, 0);
            int carried = weighed(plan, march, 1);
            if (best == NONE || hungry < leastHungry || hungry == leastHungry && carried < leastCarried) {
                best = plan;
                leastHungry = hungry;
                leastCarried = carried;
            }
        }
        return best;
    }

    // ---- what is told

    public int image() {
        if (theLand.places == 0) {
            return STATE;
        }
        System.arraycopy(theLand.flour, 0, imageFlour, 0, PLACES);
        imageLand = landsRead;
        return theLand.allFlour();
    }

    public int restore() {
        if (imageLand == 0 || imageLand != landsRead) {
            return STATE;
        }
        System.arraycopy(imageFlour, 0, theLand.flour, 0, PLACES);
        forget();
        return theLand.allFlour();
    }

    public int count(int what) {
        switch (what) {
            case 0:
                return theLand.places;
            case 1:
                return marchCount;
            case 2:
                return planCount;
            case 3:
                return thePage.count;
            case 4:
                return landsRead;
            case 5:
                return fiveDone;
            default:
                return OUTSIDE;
        }
    }

    public long digest() {
        long h = landInto(397L);
        for (int march = 0; march < marchCount; march++) {
            h = marchInto(h, marches[march]);
        }
        for (int plan = 0; plan < planCount; plan++) {
            h = planInto(h, plans[plan]);
            if (theLand.places > 0 && marchCount > 0 && !(plans[plan] instanceof Best)) {
                pitch(plan, 0);
                h = 31 * h + camp.stands.count;
                h = 31 * h + keptHungry[solved(plan, 0, marches[0].wayOn())];
            }
        }
        for (int i = 0; i < thePage.count; i++) {
            h = 31 * h + thePage.letters[i];
        }
        for (int what = 0; what <= 5; what++) {
            h = 31 * h + count(what);
        }
        return h;
    }

    // ---- below the face

    private long landInto(long digest) {
        long h = digest;
        if (theLand.places == 0) {
            return h;
        }
        for (int what = 0; what <= 4; what++) {
            h = 31 * h + landTold(what);
        }
        for (int p = 0; p < theLand.places; p++) {
            h = 31 * h + theLand.flour[p];
            h = 31 * h + theLand.wood[p];
        }
        return h;
    }

    private long marchInto(long digest, March march) {
        long h = 31 * digest + march.days;
        for (int day = 0; day < march.days; day++) {
            h = 31 * h + march.men[day];
        }
        for (int i = 0; i < march.chances; i++) {
            h = 31 * h + march.tenths[i];
        }
        if (theLand.places > 0) {
            march.walk(theLand.places, march.wayOn(), camp.column);
            for (int day = 0; day < march.days; day++) {
                h = 31 * h + camp.column[day];
            }
        }
        return h;
    }

    private static long planInto(long digest, Base plan) {
        long h = 31 * digest + plan.kind();
        h = 31 * h + plan.ovens;
        return 31 * h + plan.number;
    }

    /** How many letters w tells; NONE: it is not as told. */
    private static int lettersIn(long w) {
        int many = 0;
        for (int i = 0; i < 8; i++) {
            int code = (int) (w >>> (8 * i)) & 255;
            if (code > 126 || code != 0 && many < i) {
                return NONE;
            }
            if (code != 0) {
                many++;
            }
        }
        return many;
    }

    private static int leastNumber(int kind) {
        return kind == 1 || kind == 2 ? 1 : 0;
    }

    private static int mostNumber(int kind) {
        return kind == 0 ? PLACES - 1 : kind == 3 ? 0 : 9;
    }

    private static Base madePlan(int kind, int k, int n) {
        switch (kind) {
            case 1:
                return new Follow(k, n);
            case 2:
                return new Leap(k, n);
            case 3:
                return new Best(k);
            default:
                return new Base(k, n);
        }
    }

    private int added(Base plan) {
        if (planCount >= PLANS) {
            return FULL;
        }
        plans[planCount] = plan;
        planCount++;
        return planCount - 1;
    }

    private Base planOf(int plan) {
        return plan >= 0 && plan < planCount ? plans[plan] : null;
    }

    private March marchOf(int march) {
        return march >= 0 && march < marchCount ? marches[march] : null;
    }

    private int refusal(int plan, int march) {
        if (planOf(plan) == null || marchOf(march) == null) {
            return UNKNOWN;
        }
        return theLand.places == 0 ? STATE : FINE;
    }

    private int wayRefusal(int plan, int march, int way) {
        int refused = refusal(plan, march);
        if (refused != FINE) {
            return refused;
        }
        return marches[march].hasWay(way) ? FINE : OUTSIDE;
    }

    private void forget() {
        Arrays.fill(keptHungry, NONE);
        Arrays.fill(keptCarried, NONE);
        Arrays.fill(keptChoice, NONE);
    }

    /** The stands of a plan for a march stand in the camp then. */
    private void pitch(int plan, int march) {
        Base chosen = plans[plan];
        if (chosen instanceof Best best) {
            int kept = plan * MARCHES + march;
            if (keptChoice[kept] == NONE) {
                keptChoice[kept] = best.choice(camp, theLand, marches[march]);
            }
            best.settle(camp, theLand, marches[march], keptChoice[kept]);
        } else {
            chosen.pitch(camp, theLand, marches[march], chosen.ovens);
        }
    }

    private static int keptAt(int plan, int march, int way) {
        return (plan * MARCHES + march) * WAYS + way;
    }

    /** Where HUNGRY and CARRIED are kept for a plan by a way of a march: they are worked out then. */
    private int solved(int plan, int march, int way) {
        int kept = keptAt(plan, march, way);
        if (keptHungry[kept] == NONE) {
            pitch(plan, march);
            camp.feed(theLand, marches[march], way, 0);
            keptHungry[kept] = camp.hungry;
            keptCarried[kept] = camp.carried;
        }
        return kept;
    }

    /** HUNGRY (0) or CARRIED (1) of all ways, which are solved, each as often as it comes of allChances(). */
    private int weighed(int plan, int march, int what) {
        March gone = marches[march];
        int sum = 0;
        for (int way = 0; way <= gone.wayOn(); way++) {
            int kept = keptAt(plan, march, way);
            sum += gone.chancesOf(way) * (what == 0 ? keptHungry[kept] : keptCarried[kept]);
        }
        return sum;
    }

    private static int commonDivisor(int one, int other) {
        int a = one;
        int b = other;
        for (int i = 0; i < 64 && b != 0; i++) {
            int rest = a % b;
            a = b;
            b = rest;
        }
        return a;
    }

    private static int seedBehind(int seed) {
        return (int) ((1103515245L * seed + 12345L) & 0x7fffffffL);
    }

    private int hungryIn(Land land, int plan, int march, int ovens) {
        plans[plan].pitch(camp, land, marches[march], ovens);
        camp.feed(land, marches[march], marches[march].wayOn(), 0);
        return camp.hungry;
    }

    /** Letters that wait to be read, and how far a reader has come: up to the first one that cannot stand. */
    private static final class Page {
        static final int ROOM = 60;
        final int[] letters = new int[ROOM];
        int count;
        int come;

        void put(int code) {
            if (count < ROOM) {
                letters[count] = code;
                count++;
            }
        }

        boolean atEnd() {
            return come >= count;
        }

        /** The letter to be read; 0, which is no letter's code: there is none. */
        int look() {
            return come >= 0 && come < count ? letters[come] : 0;
        }

        boolean take(char letter) {
            if (look() != letter) {
                return false;
            }
            come++;
            return true;
        }

        /** A digit in these bounds, taken; NONE: there is none. */
        int digit(int least, int most) {
            int value = look() - '0';
            if (value < least || value > most) {
                return NONE;
            }
            come++;
            return value;
        }

        /** A number of one to so many digits, whose first is the least one at least; NONE: there is none. */
        int number(int least, int digits) {
            int value = digit(least, 9);
            for (int i = 1; i < digits && value >= 0; i++) {
                int next = digit(0, 9);
                if (next < 0) {
                    return value;
                }
                value = 10 * value + next;
            }
            return value;
        }
    }

    private static final class Land {
        // 0: there is no LAND.
        int places;
        final int[] flour = new int[PLACES];
        final int[] wood = new int[PLACES];
        int bakes, build, keep, biscuit;

        boolean has(int place) {
            return place >= 0 && place < places;
        }

        boolean read(Page page) {
            page.come = 0;
            Arrays.fill(flour, 0);
            return readPlaces(page) && readOvens(page) && page.atEnd();
        }

        private boolean readPlaces(Page page) {
            places = 0;
            for (int p = 0; p < PLACES; p++) {
                if (p > 0 && !page.take(',')) {
                    break;
                }
                int value = page.number(0, 3);
                if (value < 0) {
                    return false;
                }
                flour[p] = value;
                wood[p] = page.take('w') ? 1 : 0;
                places = p + 1;
            }
            return places >= 2;
        }

        private boolean readOvens(Page page) {
            if (!page.take(';') || !page.take('b')) {
                return false;
            }
            bakes = page.number(1, 2);
            if (bakes < 0 || !page.take('d')) {
                return false;
            }
            build = page.digit(0, 9);
            if (build < 0 || !page.take('k')) {
                return false;
            }
            keep = page.digit(1, 9);
            if (keep < 0) {
                return false;
            }
            biscuit = page.take('r') ? page.number(0, 3) : 0;
            return biscuit >= 0;
        }

        void become(Land other) {
            places = other.places;
            System.arraycopy(other.flour, 0, flour, 0, PLACES);
            System.arraycopy(other.wood, 0, wood, 0, PLACES);
            bakes = other.bakes;
            build = other.build;
            keep = other.keep;
            biscuit = other.biscuit;
        }

        /** What MORE asks, but for the oven more (0), which is the plan's. */
        void getMore(int what) {
            switch (what) {
                case 1:
                    bakes++;
                    break;
                case 2:
                    keep++;
                    break;
                case 3:
                    flour[0] += 10;
                    break;
                case 4:
                    build = Math.max(0, build - 1);
                    break;
                default:
                    break;
            }
        }

        int allFlour() {
            int sum = 0;
            for (int p = 0; p < places; p++) {
                sum += flour[p];
            }
            return sum;
        }

        /** The last place with wood not beyond this one; NONE: there is none. */
        int lastWood(int place) {
            for (int p = Math.min(place, places - 1); p >= 0; p--) {
                if (wood[p] == 1) {
                    return p;
                }
            }
            return NONE;
        }
    }

    private static final class March {
        static final int BY_CHANCE = 2;
        int days, chances;
        final int[] men = new int[DAYS];
        // 1 forward, -1 back, 0 it stands, or BY_CHANCE.
        final int[] steps = new int[DAYS];
        final int[] tenths = new int[CHANCES];

        boolean read(Page page) {
            page.come = 0;
            days = 0;
            chances = 0;
            int now = page.number(1, 2);
            if (now < 0 || !page.take(':')) {
                return false;
            }
            for (int item = 0; item < Page.ROOM && !page.atEnd(); item++) {
                boolean fits;
                if (page.take('m')) {
                    now = page.number(1, 2);
                    fits = now > 0;
                } else if (days < DAYS && chances < CHANCES && page.take('c')) {
                    fits = readTenths(page, now);
                } else {
                    fits = readSteps(page, now);
                }
                if (!fits) {
                    return false;
                }
            }
            return days > 0;
        }

        private boolean readTenths(Page page, int now) {
            int value = page.digit(1, 9);
            if (value < 0 || chances >= CHANCES) {
                return false;
            }
            tenths[chances] = value;
            chances++;
            addDays(BY_CHANCE, 1, now);
            return true;
        }

        private boolean readSteps(Page page, int now) {
            if (days >= DAYS) {
                return false;
            }
            int step = page.take('f') ? 1 : page.take('b') ? -1 : page.take('s') ? 0 : BY_CHANCE;
            if (step == BY_CHANCE) {
                return false;
            }
            int many = page.digit(2, Math.min(9, DAYS - days));
            addDays(step, many < 0 ? 1 : many, now);
            return true;
        }

        private void addDays(int step, int many, int now) {
            for (int i = 0; i < many && days < DAYS; i++) {
                steps[days] = step;
                men[days] = now;
                days++;
            }
        }

        void goForward(int many, int now) {
            days = 0;
            chances = 0;
            addDays(1, many, now);
        }

        int wayOn() {
            return (1 << chances) - 1;
        }

        boolean hasWay(int way) {
            return way >= 0 && way <= wayOn();
        }

        /** Where the column is on each day by a way. */
        void walk(int places, int way, int[] column) {
            int here = 0;
            int chance = 0;
            for (int day = 0; day < days && day < column.length; day++) {
                int step = steps[day];
                if (step == BY_CHANCE) {
                    step = (way >> chance) & 1;
                    chance++;
                }
                here = Math.max(0, Math.min(places - 1, here + step));
                column[day] = here;
            }
        }

        int allMen() {
            int sum = 0;
            for (int day = 0; day < days; day++) {
                sum += men[day];
            }
            return sum;
        }

        int allChances() {
            return chances == 0 ? 1 : chances == 1 ? 10 : 100;
        }

        int chancesOf(int way) {
            int product = 1;
            for (int i = 0; i < chances; i++) {
                product *= ((way >> i) & 1) == 1 ? tenths[i] : 10 - tenths[i];
            }
            return product;
        }
    }

    /** Stands by first days, of like ones by places, of like ones by last days. */
    private static final class Stands {
        static final int ROOM = OVENS * DAYS;
        final int[] place = new int[ROOM];
        final int[] from = new int[ROOM];
        final int[] to = new int[ROOM];
        int count;

        /** One more in its place among the others, if there is one such in this land and march. */
        void add(Land land, March march, int where, int first, int last) {
            int end = Math.min(last, march.days - 1);
            if (!land.has(where) || land.wood[where] == 0 || first > end || count >= ROOM) {
                return;
            }
            int i = count;
            while (i > 0 && isBehind(i - 1, where, first, end)) {
                place[i] = place[i - 1];
                from[i] = from[i - 1];
                to[i] = to[i - 1];
                i--;
            }
            place[i] = where;
            from[i] = first;
            to[i] = end;
            count++;
        }

        private boolean isBehind(int i, int where, int first, int last) {
            if (from[i] != first) {
                return from[i] > first;
            }
            return place[i] != where ? place[i] > where : to[i] > last;
        }

        int bakingAt(int where, int day, int build) {
            int baking = 0;
            for (int i = 0; i < count; i++) {
                if (place[i] == where && from[i] + build <= day && day <= to[i]) {
                    baking++;
                }
            }
            return baking;
        }
    }

    /** A plan: as it is, of the kind BASE. */
    private static class Base {
        final int ovens, number;

        Base(int ovens, int number) {
            this.ovens = ovens;
            this.number = number;
        }

        int kind() {
            return 0;
        }

        boolean takesOneMore() {
            return ovens < OVENS;
        }

        /** Its stands, with so many ovens, stand in the camp then. */
        void pitch(Camp camp, Land land, March march, int many) {
            camp.stands.count = 0;
            for (int i = 0; i < many; i++) {
                camp.stands.add(land, march, number, number, DAYS);
            }
        }
    }

    private static class Follow extends Base {
        Follow(int ovens, int stay) {
            super(ovens, stay);
        }

        @Override
        int kind() {
            return 1;
        }

        /** The day by whose place of the column the spot is chosen. */
        int dayLookedAt(int day, March march) {
            return day;
        }

        @Override
        void pitch(Camp camp, Land land, March march, int many) {
            camp.stands.count = 0;
            march.walk(land.places, march.wayOn(), camp.column);
            int day = 0;
            int before = NONE;
            for (int turn = 0; turn < DAYS && day < march.days; turn++) {
                int spot = land.lastWood(camp.column[dayLookedAt(day, march)]);
                if (spot == NONE) {
                    day++;
                    continue;
                }
                day += before == NONE ? 0 : Math.abs(spot - before);
                for (int i = 0; i < many; i++) {
                    camp.stands.add(land, march, spot, day, day + number - 1);
                }
                before = spot;
                day += number;
            }
        }
    }

    private static final class Leap extends Follow {
        Leap(int ovens, int stay) {
            super(ovens, stay);
        }

        @Override
        int kind() {
            return 2;
        }

        @Override
        int dayLookedAt(int day, March march) {
            return Math.min(day + number, march.days - 1);
        }
    }

    private static final class Best extends Base {
        static final int NOWHERE = PLACES * PLACES;

        Best(int ovens) {
            super(ovens, 0);
        }

        @Override
        int kind() {
            return 3;
        }

        @Override
        boolean takesOneMore() {
            return false;
        }

        @Override
        void pitch(Camp camp, Land land, March march, int many) {
            settle(camp, land, march, choice(camp, land, march));
        }

        /** The ovens' places as the figures of a number by PLACES; NOWHERE: no place has wood. */
        int choice(Camp camp, Land land, March march) {
            int best = NOWHERE, leastHungry = 0, leastCarried = 0;
            for (int one = 0; one < land.places; one++) {
                int last = ovens == 1 ? one : land.places - 1;
                for (int two = one; two <= last; two++) {
                    if (land.wood[one] == 0 || land.wood[two] == 0) {
                        continue;
                    }
                    settle(camp, land, march, PLACES * one + two);
                    camp.feed(land, march, march.wayOn(), 0);
                    boolean less = camp.hungry < leastHungry
                            || camp.hungry == leastHungry && camp.carried < leastCarried;
                    if (best == NOWHERE || less) {
                        best = PLACES * one + two;
                        leastHungry = camp.hungry;
                        leastCarried = camp.carried;
                    }
                }
            }
            return best;
        }

        void settle(Camp camp, Land land, March march, int choice) {
            camp.stands.count = 0;
            if (choice < 0 || choice >= NOWHERE) {
                return;
            }
            int one = choice / PLACES;
            int two = choice % PLACES;
            camp.stands.add(land, march, one, one, DAYS);
            if (ovens > 1) {
                camp.stands.add(land, march, two, two, DAYS);
            }
        }
    }

    private static final class Told extends Base {
        static final int ROOM = 6;
        final int[] place = new int[ROOM];
        final int[] from = new int[ROOM];
        final int[] to = new int[ROOM];
        int count;

        Told() {
            super(0, 0);
        }

        @Override
        int kind() {
            return 4;
        }

        @Override
        boolean takesOneMore() {
            return false;
        }

        boolean read(Page page) {
            page.come = 0;
            count = 0;
            for (int i = 0; i < ROOM; i++) {
                if (i > 0 && !page.take(',')) {
                    break;
                }
                if (!readStand(page, i)) {
                    return false;
                }
                count = i + 1;
            }
            return page.atEnd();
        }

        private boolean readStand(Page page, int i) {
            place[i] = page.digit(0, PLACES - 1);
            if (place[i] < 0 || !page.take('d')) {
                return false;
            }
            from[i] = page.number(0, 2);
            if (from[i] < 0 || !page.take('-')) {
                return false;
            }
            to[i] = page.number(0, 2);
            return to[i] >= 0;
        }

        @Override
        void pitch(Camp camp, Land land, March march, int many) {
            camp.stands.count = 0;
            for (int i = 0; i < count; i++) {
                camp.stands.add(land, march, place[i], from[i], to[i]);
            }
        }
    }

    /** The stands of a plan, and what they bake for a column: a net from flour over ovens to days. */
    private static final class Camp {
        static final int FLOUR_NODE = 2, DAY_NODE = FLOUR_NODE + PLACES, FIRST_FREE = DAY_NODE + DAYS;
        static final int BAKING_DAYS = EARLIEST + DAYS;
        final Stands stands = new Stands();
        final int[] column = new int[DAYS];
        final int[] baking = new int[PLACES * BAKING_DAYS];
        final Net net = new Net();
        int hungry, carried;

        /** HUNGRY and CARRIED by a way, if each stand was begun so many days early. */
        void feed(Land land, March march, int way, int early) {
            net.clear(FIRST_FREE, true);
            lay(land, march, way, early);
            for (int day = 0; day < march.days; day++) {
                net.edge(DAY_NODE + day, Net.SINK, march.men[day], 0);
            }
            net.fill();
            hungry = march.allMen() - net.flow;
            carried = net.spent;
        }

        /** The first day up to which more go without than this; NONE: there is none. */
        int firstLack(Land land, March march, int way, int bearable) {
            // Days come to the net one by one: by prices what flows already would have to be led anew.
            net.clear(FIRST_FREE, false);
            lay(land, march, way, 0);
            int men = 0;
            for (int day = 0; day < march.days; day++) {
                men += march.men[day];
                net.edge(DAY_NODE + day, Net.SINK, march.men[day], 0);
                net.fill();
                if (men - net.flow > bearable) {
                    return day;
                }
            }
            return NONE;
        }

        /** The net, which is clear, up to the days; those who eat on them are for the caller to lay. */
        private void lay(Land land, March march, int way, int early) {
            march.walk(land.places, way, column);
            countBaking(land.build, early);
            for (int p = 0; p < land.places; p++) {
                net.edge(Net.SOURCE, FLOUR_NODE + p, land.flour[p], 0);
            }
            for (int i = 0; i < baking.length; i++) {
                int most = baking[i] * land.bakes;
                if (most == 0) {
                    continue;
                }
                int place = i / BAKING_DAYS;
                int day = i % BAKING_DAYS - EARLIEST;
                // Flour comes in by one node, bread goes out by another: between them no more than is baked.
                int in = net.addNode();
                int out = net.addNode();
                net.edge(in, out, most, 0);
                net.edge(FLOUR_NODE + place, in, most, 0);
                if (place > 0 && day >= place - early) {
                    net.edge(FLOUR_NODE, in, most, place);
                }
                int last = Math.min(day + land.keep, march.days - 1);
                for (int eaten = Math.max(day, 0); eaten <= last; eaten++) {
                    int distance = Math.abs(column[eaten] - place);
                    if (eaten - day >= distance) {
                        net.edge(out, DAY_NODE + eaten, most, distance);
                    }
                }
            }
        }

        private void countBaking(int build, int early) {
            Arrays.fill(baking, 0);
            for (int i = 0; i < stands.count; i++) {
                int row = stands.place[i] * BAKING_DAYS + EARLIEST;
                int first = Math.max(stands.from[i] - early + build, -EARLIEST);
                int last = Math.min(stands.to[i], DAYS - 1);
                for (int day = first; day <= last; day++) {
                    baking[row + day]++;
                }
            }
        }
    }

    /** A net of edges with room and cost, filled with as much as can flow, at the least cost. */
    private static final class Net {
        static final int SOURCE = 0, SINK = 1;
        // An oven has two nodes for each place and day on which it may bake.
        static final int NODES = Camp.FIRST_FREE + 2 * PLACES * Camp.BAKING_DAYS;
        // From flour 8, to days 10, three for each oven, of bread at most 100 for each place, each with its reverse.
        static final int EDGES = 2 * (PLACES + DAYS + 3 * PLACES * Camp.BAKING_DAYS + 100 * PLACES);
        // More than all who may eat, in hundreds: each path brings one of them bread at least.
        static final int PATHS = 1000;
        static final int ENDLESS = 1 << 28;
        final int[] to = new int[EDGES];
        final int[] room = new int[EDGES];
        final int[] cost = new int[EDGES];
        final int[] next = new int[EDGES];
        final int[] first = new int[NODES];
        final int[] dist = new int[NODES];
        // Nodes that wait while measure() runs, edges of a path while thread() does.
        final int[] line = new int[NODES];
        // The edge of each node by which thread() goes on; those ahead of it led nowhere.
        final int[] arc = new int[NODES];
        final boolean[] seen = new boolean[NODES];
        int nodes, edges, flow, spent;
        boolean priced;

        void clear(int many, boolean withPrices) {
            nodes = Math.min(many, NODES);
            priced = withPrices;
            edges = 0;
            flow = 0;
            spent = 0;
            Arrays.fill(first, NONE);
        }

        int addNode() {
            if (nodes < NODES) {
                nodes++;
            }
            return nodes - 1;
        }

        /** An edge and, behind it, its reverse, by which what flows may be taken back. */
        void edge(int from, int where, int most, int distance) {
            if (edges + 1 >= EDGES) {
                return;
            }
            int price = priced ? distance : 0;
            to[edges] = where;
            room[edges] = most;
            cost[edges] = price;
            next[edges] = first[from];
            first[from] = edges;
            edges++;
            to[edges] = from;
            room[edges] = 0;
            cost[edges] = -price;
            next[edges] = first[where];
            first[where] = edges;
            edges++;
        }

        /** As much more as can flow by what has been laid, always by a way of the least cost. */
        void fill() {
            for (int round = 0; round < PATHS && measure(); round++) {
                System.arraycopy(first, 0, arc, 0, nodes);
                for (int n = 0; n < nodes; n++) {
                    seen[n] = false;
                }
                int length = thread();
                for (int path = 0; path < PATHS && length > 0; path++) {
                    push(length);
                    length = thread();
                }
            }
        }

        /** The least cost from the source to each node: whether the sink can be come to. */
        private boolean measure() {
            for (int n = 0; n < nodes; n++) {
                dist[n] = ENDLESS;
                seen[n] = false;
            }
            dist[SOURCE] = 0;
            line[0] = SOURCE;
            int head = 0;
            int waiting = 1;
            for (int turn = 0; turn < NODES * NODES && waiting > 0; turn++) {
                int node = line[head];
                head = head + 1 == NODES ? 0 : head + 1;
                waiting--;
                seen[node] = false;
                for (int e = first[node], left = edges; e >= 0 && left > 0; e = next[e], left--) {
                    int there = to[e];
                    if (room[e] > 0 && dist[node] + cost[e] < dist[there]) {
                        dist[there] = dist[node] + cost[e];
                        if (!seen[there]) {
                            seen[there] = true;
                            int end = head + waiting;
                            line[end >= NODES ? end - NODES : end] = there;
                            waiting++;
                        }
                    }
                }
            }
            return dist[SINK] < ENDLESS;
        }

        /** A path of the least cost to the sink, its edges in line: how many they are, 0 if none is found. */
        private int thread() {
            int node = SOURCE;
            int length = 0;
            for (int turn = 0; turn < 2 * NODES && node != SINK; turn++) {
                seen[node] = true;
                int e = arc[node];
                for (int left = edges; left > 0 && e >= 0; left--) {
                    if (room[e] > 0 && !seen[to[e]] && dist[node] + cost[e] == dist[to[e]]) {
                        break;
                    }
                    e = next[e];
                }
                arc[node] = e;
                if (e >= 0) {
                    line[length] = e;
                    length++;
                    node = to[e];
                } else if (length > 0) {
                    length--;
                    node = to[line[length] ^ 1];
                } else {
                    return 0;
                }
            }
            return node == SINK ? length : 0;
        }

        private void push(int length) {
            int most = ENDLESS;
            for (int i = 0; i < length; i++) {
                int free = room[line[i]];
                most = free < most ? free : most;
            }
            for (int i = 0; i < length; i++) {
                int e = line[i];
                room[e] -= most;
                room[e ^ 1] += most;
                spent += most * cost[e];
                seen[to[e ^ 1]] = false;
            }
            flow += most;
        }
    }
}
