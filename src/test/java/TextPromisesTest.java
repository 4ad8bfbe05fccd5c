/** Promises 1 to 14, one method each: the page, the texts and what is told of them. */
public final class TextPromisesTest {
    private static final int NONE = FieldOvens.NONE, UNKNOWN = FieldOvens.UNKNOWN, OUTSIDE = FieldOvens.OUTSIDE;
    private static final int STATE = FieldOvens.STATE, FULL = FieldOvens.FULL;
    private static final Check CHECK = new Check("promises 1 to 14");

    public static void main(String[] args) {
        newObject();
        letters();
        blank();
        fault();
        land();
        march();
        plan();
        tell();
        as();
        landTold();
        place();
        flour();
        marchTold();
        at();
        CHECK.end();
    }

    private static void newObject() {
        FieldOvens x = new FieldOvens();
        for (int what = 0; what <= 5; what++) CHECK.due("1: count(" + what + ")", x.count(what), 0);
        CHECK.due("1: landTold(0)", x.landTold(0), STATE);
        CHECK.due("1: marchTold(0, 0)", x.marchTold(0, 0), UNKNOWN);
        CHECK.due("1: as(0, 0)", x.as(0, 0), UNKNOWN);
        CHECK.due("1: image()", x.image(), STATE);
        CHECK.due("1: restore()", x.restore(), STATE);
        CHECK.due("1: digest()", x.digest(), 397L * 31 * 31 * 31 * 31 * 31 * 31);
    }

    private static void letters() {
        FieldOvens x = new FieldOvens();
        CHECK.due("2: three", x.letters(Check.packed("abc")), 3);
        CHECK.due("2: eight", x.letters(Check.packed("12345678")), 11);
        CHECK.due("2: none", x.letters(0), 11);
        CHECK.due("2: code 126", x.letters(126), 12);
        CHECK.due("2: code 1", x.letters(1), 13);
        CHECK.due("2: code 127", x.letters(127), OUTSIDE);
        CHECK.due("2: code 255 in the last byte", x.letters(-1L << 56 | 0x20202020202020L), OUTSIDE);
        CHECK.due("2: all bits", x.letters(-1), OUTSIDE);
        CHECK.due("2: behind a 0", x.letters(0x6100610061L), OUTSIDE);
        CHECK.due("2: behind a 0 at first", x.letters(0x6100), OUTSIDE);
        CHECK.due("2: nothing came", x.count(3), 13);
        for (int i = 0; i < 5; i++) x.letters(Check.packed("aaaaaaaa"));
        CHECK.due("2: 8 more than 53", x.letters(Check.packed("bbbbbbbb")), FULL);
        CHECK.due("2: still 53", x.count(3), 53);
        CHECK.due("2: just 60", x.letters(Check.packed("bbbbbbb")), 60);
        CHECK.due("2: one above", x.letters('c'), FULL);
        CHECK.due("2: none above", x.letters(0), 60);
        CHECK.due("2: outside ahead of full", x.letters(200), OUTSIDE);
        FieldOvens y = new FieldOvens();
        y.letters(Check.packed("ab"));
        CHECK.due("2: lowest byte first", y.digest(), digest(397, 'a', 'b', 0, 0, 0, 2, 0, 0));
    }

    private static long digest(long start, int... numbers) {
        long h = start;
        for (int number : numbers) h = 31 * h + number;
        return h;
    }

    private static void blank() {
        FieldOvens x = new FieldOvens();
        CHECK.due("3: empty", x.blank(), 0);
        Check.write(x, "some letters");
        CHECK.due("3: twelve", x.blank(), 12);
        CHECK.due("3: none then", x.count(3), 0);
        CHECK.due("3: empty again", x.blank(), 0);
    }

    private static void faultOf(int sort, String text, int want) {
        FieldOvens x = new FieldOvens();
        Check.write(x, text);
        CHECK.due("4: fault(" + sort + ") of " + text, x.fault(sort), want);
        CHECK.due("4: letters stay, " + text, x.count(3), text.length());
        int read = sort == 0 ? x.land() : sort == 1 ? x.march() : x.tell();
        if (want < text.length()) CHECK.due("4: it is none, " + text, read, STATE);
    }

    private static void fault() {
        String[] lands = {"", "0", "5w,5;b10d2k3", "12", "1,2,3,4,5,6,7,8;b1d0k1", "22", "5;", "1", "5w5", "2", "1234",
            "3", "1,2,3,4,5,6,7,8,9", "15", "1,2;b0", "5", "1,2;b100", "7", "1,2;b1d10", "8", "1,2;b1d1k0", "9",
            "1,2;b1d1k1r", "11", "1,2;b1d1k1r1234", "14", "1,2;b1d1k1x", "10", "w", "0", "1ww", "2", "1,,2", "2",
            "1,2;d", "4", "1,2b", "3", "1,2;b1k", "6", "1,2;b1d1d", "8", "000w,007;b99d9k9r000", "20", "1,2;b1d1kr", "9"};
        for (int i = 0; i < lands.length; i += 2) faultOf(0, lands[i], Integer.parseInt(lands[i + 1]));
        String[] marches = {"", "0", "0:f", "0", "100:f", "2", "12:f", "4", "3f", "1", "3:f1", "3", "3:f0", "3", "3:f22",
            "4", "3:c0", "3", "3:cf", "3", "3:cs", "3", "3:c1c2c3", "6", "3:m0", "3", "3:m05", "3", "3:m123", "5",
            "3:f9f", "5", "3:f9ff", "5", "3:f9f2", "5", "3:f9fm5", "7", "3:f9c5c5", "6", "3:f5b4s2", "7", "3:f5b3s2", "8",
            "3:f9fs", "5", "3:", "2", "3:x", "2", "3:mf", "3", "3:f2f9", "5", "3:f2f8", "6", "3:c55", "4", "3:m10m9b", "8"};
        for (int i = 0; i < marches.length; i += 2) faultOf(1, marches[i], Integer.parseInt(marches[i + 1]));
        String six = "0d1-2,1d1-2,2d1-2,3d1-2,4d1-2,5d1-2";
        String[] told = {"", "0", "0d0-3,2d1-9,3d2-6", "17", "8d", "0", "0d123", "4", "0d1-123", "6", "0d1,", "3",
            "0d1-2,", "6", "0d-", "2", "0e", "1", "7d99-00", "7", six, "35", six + ",", "35", "0d1-2;", "5", "0d1-,", "4"};
        for (int i = 0; i < told.length; i += 2) faultOf(2, told[i], Integer.parseInt(told[i + 1]));
        FieldOvens x = new FieldOvens();
        CHECK.due("4: fault(-1)", x.fault(-1), OUTSIDE);
        CHECK.due("4: fault(3)", x.fault(3), OUTSIDE);
    }

    private static void land() {
        FieldOvens x = new FieldOvens();
        CHECK.due("5: empty page", x.land(), STATE);
        CHECK.due("5: part of one", Check.land(x, "1,2;b1d0"), STATE);
        CHECK.due("5: the page stays", x.count(3), 8);
        CHECK.due("5: none was read", x.count(4), 0);
        CHECK.due("5: the rest of it", Check.land(x, "k1"), 2);
        CHECK.due("5: the page is empty", x.count(3), 0);
        CHECK.due("5: one was read", x.count(4), 1);
        Check.march(x, "1:f");
        x.plan(0, 1, 0);
        CHECK.due("5: another", Check.land(x, "3w,4,5,6w;b12d3k4r56"), 4);
        CHECK.due("5: marches stay", x.count(1), 1);
        CHECK.due("5: plans stay", x.count(2), 1);
        CHECK.due("5: places", x.count(0), 4);
        CHECK.due("5: a spoilt one", Check.land(x, "1,2;b1d0k1r"), STATE);
        x.blank();
        CHECK.due("5: the old one stands", x.landTold(4), 56);
        CHECK.due("5: a biscuit less one", Check.land(x, "1,2;b1d0k1"), 2);
        CHECK.due("5: no biscuit of the one ahead", x.landTold(4), 0);
        CHECK.due("5: no place of the one ahead", x.place(2, 0), UNKNOWN);
    }

    private static void march() {
        FieldOvens x = new FieldOvens();
        CHECK.due("6: no days", Check.march(x, "1:m5"), STATE);
        CHECK.due("6: the page stays", x.count(3), 4);
        CHECK.due("6: a day more", Check.march(x, "f"), 0);
        CHECK.due("6: the page is empty", x.count(3), 0);
        CHECK.due("6: second", Check.march(x, "99:f9f"), 1);
        CHECK.due("6: third", Check.march(x, "5:c1c9m3b2"), 2);
        CHECK.due("6: fourth", Check.march(x, "5:s"), 3);
        CHECK.due("6: state ahead of full", x.march(), STATE);
        CHECK.due("6: full", Check.march(x, "5:s"), FULL);
        CHECK.due("6: the page stays, full", x.count(3), 3);
        CHECK.due("6: four", x.count(1), 4);
        CHECK.due("6: the third as it was", x.marchTold(2, 0), 4);
    }

    private static void plan() {
        for (int kind = -1; kind <= 5; kind++) {
            for (int k = -1; k <= 4; k++) {
                for (int n = -1; n <= 10; n++) {
                    boolean base = kind == 0 && k >= 1 && k <= 3 && n >= 0 && n <= 7;
                    boolean follow = (kind == 1 || kind == 2) && k >= 1 && k <= 3 && n >= 1 && n <= 9;
                    boolean best = kind == 3 && k >= 1 && k <= 2 && n == 0;
                    int got = new FieldOvens().plan(kind, k, n);
                    CHECK.due("7: plan(" + kind + ", " + k + ", " + n + ")", got, base || follow || best ? 0 : OUTSIDE);
                }
            }
        }
        FieldOvens x = new FieldOvens();
        for (int i = 0; i < 8; i++) CHECK.due("7: number", x.plan(i % 4, 1, i % 4 % 3 == 0 ? 0 : 1), i);
        CHECK.due("7: full", x.plan(0, 1, 0), FULL);
        CHECK.due("7: outside ahead of full", x.plan(4, 1, 0), OUTSIDE);
        CHECK.due("7: eight", x.count(2), 8);
    }

    private static void tell() {
        FieldOvens x = new FieldOvens();
        CHECK.due("8: empty page", x.tell(), STATE);
        CHECK.due("8: part of one", Check.told(x, "0d1-"), STATE);
        CHECK.due("8: the page stays", x.count(3), 4);
        CHECK.due("8: the rest", Check.told(x, "10"), 0);
        CHECK.due("8: the page is empty", x.count(3), 0);
        for (int i = 1; i < 8; i++) CHECK.due("8: number", Check.told(x, "7d99-0,0d0-0"), i);
        CHECK.due("8: state ahead of full", x.tell(), STATE);
        CHECK.due("8: full", Check.told(x, "1d1-1"), FULL);
        CHECK.due("8: the page stays, full", x.count(3), 5);
    }

    private static void as() {
        FieldOvens x = new FieldOvens();
        x.plan(3, 1, 0);
        x.plan(2, 1, 1);
        x.plan(1, 1, 1);
        x.plan(0, 1, 0);
        Check.told(x, "0d0-0");
        int[][] own = {{0, NONE, NONE, 0, NONE}, {1, 1, 1, NONE, NONE}, {2, 2, NONE, NONE, NONE},
            {3, NONE, NONE, NONE, NONE}, {4, NONE, NONE, NONE, 4}};
        for (int plan = 0; plan < 5; plan++) {
            for (int kind = 0; kind < 5; kind++) {
                CHECK.due("9: as(" + plan + ", " + kind + ")", x.as(plan, kind), own[plan][kind]);
            }
            CHECK.due("9: as(" + plan + ", 5)", x.as(plan, 5), OUTSIDE);
            CHECK.due("9: as(" + plan + ", -1)", x.as(plan, -1), OUTSIDE);
        }
        CHECK.due("9: as(5, 0)", x.as(5, 0), UNKNOWN);
        CHECK.due("9: unknown ahead of outside", x.as(-1, 9), UNKNOWN);
    }

    private static void landTold() {
        FieldOvens x = new FieldOvens();
        CHECK.due("10: state ahead of outside", x.landTold(9), STATE);
        Check.land(x, "1,2w,3;b45d6k7r89");
        int[] told = {3, 45, 6, 7, 89};
        for (int what = 0; what < 5; what++) CHECK.due("10: landTold(" + what + ")", x.landTold(what), told[what]);
        CHECK.due("10: landTold(5)", x.landTold(5), OUTSIDE);
        CHECK.due("10: landTold(-1)", x.landTold(-1), OUTSIDE);
    }

    private static void place() {
        FieldOvens x = new FieldOvens();
        CHECK.due("11: no land", x.place(0, 0), UNKNOWN);
        Check.land(x, "17,250w;b1d0k1");
        CHECK.due("11: flour 0", x.place(0, 0), 17);
        CHECK.due("11: wood 0", x.place(0, 1), 0);
        CHECK.due("11: flour 1", x.place(1, 0), 250);
        CHECK.due("11: wood 1", x.place(1, 1), 1);
        CHECK.due("11: place 2", x.place(2, 0), UNKNOWN);
        CHECK.due("11: unknown ahead of outside", x.place(-1, 7), UNKNOWN);
        CHECK.due("11: what 2", x.place(0, 2), OUTSIDE);
        CHECK.due("11: what -1", x.place(0, -1), OUTSIDE);
    }

    private static void flour() {
        FieldOvens x = new FieldOvens();
        CHECK.due("12: no land", x.flour(0, 1), UNKNOWN);
        Check.land(x, "17,250w;b1d0k1");
        CHECK.due("12: most", x.flour(1, 999), 250);
        CHECK.due("12: least", x.flour(1, 0), 999);
        CHECK.due("12: above", x.flour(1, 1000), OUTSIDE);
        CHECK.due("12: below", x.flour(1, -1), OUTSIDE);
        CHECK.due("12: as it was", x.place(1, 0), 0);
        CHECK.due("12: the other", x.place(0, 0), 17);
        CHECK.due("12: unknown ahead of outside", x.flour(2, -1), UNKNOWN);
        CHECK.due("12: place -1", x.flour(-1, 5), UNKNOWN);
    }

    private static void marchTold() {
        FieldOvens x = new FieldOvens();
        Check.march(x, "3:fm12b2c4m7s");
        CHECK.due("13: days", x.marchTold(0, 0), 5);
        CHECK.due("13: chances", x.marchTold(0, 1), 1);
        int[] men = {3, 12, 12, 12, 7, NONE, NONE, NONE, NONE, NONE};
        for (int d = 0; d < 10; d++) CHECK.due("13: men of day " + d, x.marchTold(0, 10 + d), men[d]);
        CHECK.due("13: tenths", x.marchTold(0, 20), 4);
        CHECK.due("13: no second", x.marchTold(0, 21), NONE);
        for (int what : new int[] {-1, 2, 9, 22, 30, 100}) {
            CHECK.due("13: what " + what, x.marchTold(0, what), OUTSIDE);
        }
        CHECK.due("13: unknown ahead of outside", x.marchTold(1, 9), UNKNOWN);
        CHECK.due("13: march -1", x.marchTold(-1, 0), UNKNOWN);
        Check.march(x, "1:c1c9");
        CHECK.due("13: first tenths", x.marchTold(1, 20), 1);
        CHECK.due("13: second tenths", x.marchTold(1, 21), 9);
    }

    private static void at() {
        FieldOvens x = new FieldOvens();
        Check.march(x, "1:c5bc5f3");
        CHECK.due("14: no land", x.at(0, 0, 0), STATE);
        CHECK.due("14: state ahead of outside", x.at(0, 9, 0), STATE);
        CHECK.due("14: unknown day ahead of state", x.at(0, 9, 6), UNKNOWN);
        CHECK.due("14: unknown march ahead of state", x.at(1, 0, 0), UNKNOWN);
        Check.land(x, "0,0,0;b1d0k1");
        int[][] column = {{0, 0, 0, 1, 2, 2}, {1, 0, 0, 1, 2, 2}, {0, 0, 1, 2, 2, 2}, {1, 0, 1, 2, 2, 2}};
        for (int way = 0; way < 4; way++) {
            for (int day = 0; day < 6; day++) {
                CHECK.due("14: at(0, " + way + ", " + day + ")", x.at(0, way, day), column[way][day]);
            }
        }
        CHECK.due("14: way 4", x.at(0, 4, 0), OUTSIDE);
        CHECK.due("14: way -1", x.at(0, -1, 0), OUTSIDE);
        CHECK.due("14: day 6", x.at(0, 0, 6), UNKNOWN);
        CHECK.due("14: day -1", x.at(0, 0, -1), UNKNOWN);
        Check.march(x, "1:f");
        CHECK.due("14: no chance, way 0", x.at(1, 0, 0), 1);
        CHECK.due("14: no chance, way 1", x.at(1, 1, 0), OUTSIDE);
    }
}
