/** The boundaries of promises 1 to 14: the page, the texts and what is told of them. */
public final class EdgesOfTextsTest extends Edges {
    private static final String EIGHT = "1,2,3,4,5,6,7,8", OVENS = ";b1d0k1";

    private EdgesOfTextsTest() {
        super("edges of texts");
    }

    public static void main(String[] args) throws Exception {
        new EdgesOfTextsTest().play(1, 14);
    }

    // ---- 1 a new object

    @Says("No LAND, no MARCHES.")
    void p01_nothingIsThere() {
        FieldOvens x = new FieldOvens();
        for (int what = 0; what <= 5; what++) due("count(" + what + ")", x.count(what), 0);
        due("landTold(0)", x.landTold(0), STATE);
        due("place(0, 0)", x.place(0, 0), UNKNOWN);
        due("marchTold(0, 0)", x.marchTold(0, 0), UNKNOWN);
        due("as(0, 0)", x.as(0, 0), UNKNOWN);
        due("blank()", x.blank(), 0);
        due("restore()", x.restore(), STATE);
    }

    @Says("No LAND, no MARCHES.")
    void p01_anotherObjectStaysNew() {
        FieldOvens used = made("9w,9" + OVENS, "1:f", "0d0-0");
        used.image();
        used.which(0);
        Check.write(used, "page");
        due("digest() of a new one", new FieldOvens().digest(), digestOf(0, 0, 0, 0, 0, 0));
    }

    @Says("An object is used for at most 512 calls after it has been made; what later calls answer is free.")
    void p01_the512thCallStillAnswers() {
        FieldOvens x = new FieldOvens();
        for (int call = 1; call < 512; call++) x.letters('a');
        due("the 512th call", x.count(3), 60);
    }

    @Says("An object is used for at most 512 calls after it has been made; what later calls answer is free.")
    void p01_dearCallsUpToThe512th() {
        FieldOvens x = made("0w,9w,9w,9w,9w,9w,9w,9w;b9d0k9", "1:s9s", "0d0-9,1d0-9,2d0-9,3d0-9,4d0-9,5d0-9");
        int calls = 16;
        for (; calls + 2 <= 510; calls += 2) {
            x.flour(0, calls % 4 == 0 ? 10 : 1);
            x.hungry(0, 0, 0);
        }
        x.flour(0, 1);
        due("the last call: by the town 1, by place 1 to 5 all but day 0", x.carried(0, 0, 0), 9);
    }

    // ---- 2 letters

    @Says("Letters come behind THE PAGE, up to eight")
    void p02_noneToEightLetters() {
        for (int many = 0; many <= 8; many++) {
            FieldOvens x = new FieldOvens();
            due(many + " letters", x.letters(Check.packed("abcdefgh".substring(0, many))), many);
        }
    }

    @Says("told by their codes in the bytes of w, the lowest byte first, until a byte that is 0")
    void p02_theLowestByteFirst() {
        FieldOvens x = new FieldOvens();
        due("ab", x.letters('b' << 8 | 'a'), 2);
        due("digest()", x.digest(), digestOf('a', 'b', 0, 0, 0, 2, 0, 0));
    }

    @Says("told by their codes in the bytes of w, the lowest byte first, until a byte that is 0")
    void p02_wIs0() {
        FieldOvens x = new FieldOvens();
        due("letters(0), empty page", x.letters(0), 0);
        x.letters('a');
        due("letters(0), one letter", x.letters(0), 1);
    }

    @Says("OUTSIDE: a byte above 126")
    void p02_aByteAbove126() {
        for (int i = 0; i < 8; i++) {
            int at = i;
            long ahead = Check.packed("aaaaaaa".substring(0, i));
            FieldOvens x = new FieldOvens();
            due("126 in byte " + i, x.letters(ahead | 126L << 8 * i), i + 1);
            for (long code : new long[] {127, 128, 255}) {
                refused(x, code + " in byte " + i, OUTSIDE, () -> x.letters(ahead | code << 8 * at));
            }
        }
    }

    @Says("OUTSIDE: a byte above 126")
    void p02_theLeastCodeIs1() {
        FieldOvens x = new FieldOvens();
        due("letters(1)", x.letters(1), 1);
        due("digest()", x.digest(), digestOf(1, 0, 0, 0, 1, 0, 0));
    }

    @Says("or one behind a 0 that is not 0")
    void p02_aByteBehindA0() {
        for (int last = 1; last < 8; last++) {
            for (int empty = 0; empty < last; empty++) {
                long all = Check.packed("aaaaaaaa".substring(0, last + 1));
                long holed = all & ~(255L << 8 * empty);
                FieldOvens x = new FieldOvens();
                refused(x, "letters(" + holed + ")", OUTSIDE, () -> x.letters(holed));
            }
        }
        FieldOvens x = new FieldOvens();
        refused(x, "1 in the last byte alone", OUTSIDE, () -> x.letters(1L << 56));
        refused(x, "1 behind a 0", OUTSIDE, () -> x.letters(1L << 8));
    }

    @Says({"OUTSIDE: a byte above 126", "or one behind a 0 that is not 0"})
    void p02_theLargestAndTheSmallestNumbers() {
        FieldOvens x = new FieldOvens();
        for (long w : new long[] {Long.MIN_VALUE, Long.MAX_VALUE, -1, LEAST, MOST}) {
            refused(x, "letters(" + w + ")", OUTSIDE, () -> x.letters(w));
        }
        due("eight times 126", x.letters(0x7e7e7e7e7e7e7e7eL), 8);
    }

    @Says("FULL: above 60")
    void p02_above60() {
        for (int many = 1; many <= 8; many++) {
            long more = Check.packed("abcdefgh".substring(0, many));
            FieldOvens just = written("x".repeat(60 - many));
            due(many + " letters to 60", just.letters(more), 60);
            FieldOvens over = written("x".repeat(61 - many));
            refused(over, many + " letters to 61", FULL, () -> over.letters(more));
        }
    }

    @Says("FULL: above 60")
    void p02_noLetterOnAFullPage() {
        FieldOvens x = written("x".repeat(60));
        due("letters(0)", x.letters(0), 60);
        refused(x, "one more", FULL, () -> x.letters('x'));
        refused(x, "eight more", FULL, () -> x.letters(Check.packed("xxxxxxxx")));
    }

    @Says("Refusals, of several the first as told by each call")
    void p02_outsideAheadOfFull() {
        FieldOvens x = written("x".repeat(60));
        refused(x, "letters(127)", OUTSIDE, () -> x.letters(127));
        refused(x, "letters(1 << 8)", OUTSIDE, () -> x.letters(1 << 8));
    }

    // ---- 3 blank

    @Says("THE PAGE is empty: how many letters it had.")
    void p03_emptyAndFull() {
        FieldOvens x = new FieldOvens();
        due("empty", x.blank(), 0);
        Check.write(x, "x");
        due("one letter", x.blank(), 1);
        Check.write(x, "x".repeat(60));
        due("full", x.blank(), 60);
        due("empty again", x.blank(), 0);
        due("digest()", x.digest(), digestOf(0, 0, 0, 0, 0, 0));
        due("letters come again", x.letters('y'), 1);
    }

    // ---- 4 fault

    @Says("OUTSIDE.")
    void p04_sortsJustOutside() {
        FieldOvens x = written("3:f");
        for (int sort : new int[] {-1, 3, LEAST, MOST}) {
            refused(x, "fault(" + sort + ")", OUTSIDE, () -> x.fault(sort));
        }
        due("fault(0)", x.fault(0), 1);
        due("fault(1)", x.fault(1), 3);
        due("fault(2)", x.fault(2), 1);
    }

    @Says("how many letters it has, if there is none.")
    void p04_theEmptyPage() {
        for (int sort = LAND; sort <= TOLD; sort++) atFault(sort, "", 0);
    }

    @Says("how many letters it has, if there is none.")
    void p04_theFullPage() {
        String full = "1:" + "m11".repeat(19) + "f";
        due("letters", full.length(), 60);
        due("march of 60 letters: men", taken(MARCH, full).marchTold(0, 10), 11);
        atFault(MARCH, "1:" + "m1".repeat(29), 60);
    }

    @Says("The place (from 0) of the first letter of THE PAGE that no LAND")
    void p04_theFirstPlaceAndTheLast() {
        for (int sort = LAND; sort <= TOLD; sort++) atFault(sort, "x", 0);
        atFault(MARCH, "1:" + "m11".repeat(19) + "x", 59);
        atFault(LAND, "x".repeat(60), 0);
    }

    @Says("has there, behind those ahead of it")
    void p04_aFaultHidesThoseBehindIt() {
        atFault(LAND, "1,2;b0d0k0", 5);
        atFault(MARCH, "3:f1x", 3);
        atFault(TOLD, "0d1x8d", 3);
    }

    @Says("The place (from 0) of the first letter of THE PAGE that no LAND")
    void p04_itChangesNothing() {
        FieldOvens x = made("9w,9" + OVENS, "1:f", "0d0-0");
        Check.write(x, "5,6;b7d8k9r1");
        long before = x.digest();
        for (int sort = LAND; sort <= TOLD; sort++) x.fault(sort);
        due("digest()", x.digest(), before);
    }

    @Says({"The place (from 0) of the first letter of THE PAGE that no LAND", "(sort 0; PLACES as many as told)"})
    void p04_whatStandsBesideTheDigitsInALand() {
        for (char beside : new char[] {'/', ':'}) {
            atFault(LAND, beside + "", 0);
            atFault(LAND, "1," + beside, 2);
            atFault(LAND, "1,2" + beside, 3);
            atFault(LAND, "1,22" + beside, 4);
            atFault(LAND, "1,2;b" + beside, 5);
            atFault(LAND, "1,2;b1" + beside, 6);
            atFault(LAND, "1,2;b1d" + beside, 7);
            atFault(LAND, "1,2;b1d0k" + beside, 9);
            atFault(LAND, "1,2;b1d0k1r" + beside, 11);
            atFault(LAND, "1,2;b1d0k1r1" + beside, 12);
        }
    }

    @Says("MARCH (1; DAYS as many as told)")
    void p04_whatStandsBesideTheDigitsInAMarch() {
        for (char beside : new char[] {'/', ':'}) {
            atFault(MARCH, beside + "", 0);
            atFault(MARCH, "1:" + beside, 2);
            atFault(MARCH, "1:f" + beside, 3);
            atFault(MARCH, "1:c" + beside, 3);
            atFault(MARCH, "1:m" + beside, 3);
            atFault(MARCH, "1:m1" + beside, 4);
        }
        atFault(MARCH, "1/", 1);
    }

    @Says("TOLD plan (2) has there, behind those ahead of it")
    void p04_whatStandsBesideTheDigitsInATold() {
        for (char beside : new char[] {'/', ':'}) {
            atFault(TOLD, beside + "", 0);
            atFault(TOLD, "0d" + beside, 2);
            atFault(TOLD, "0d0" + beside, 3);
            atFault(TOLD, "0d0-" + beside, 4);
            atFault(TOLD, "0d0-0" + beside, 5);
        }
    }

    @Says("The place (from 0) of the first letter of THE PAGE that no LAND")
    void p04_otherLetters() {
        for (char other : new char[] {1, ' ', 'F', 'W', '~'}) {
            atFault(LAND, other + "", 0);
            atFault(LAND, "1" + other, 1);
            atFault(MARCH, other + "", 0);
            atFault(MARCH, "1:" + other, 2);
            atFault(TOLD, other + "", 0);
            atFault(TOLD, "1" + other, 1);
        }
    }

    // ---- 5 land

    @Says("STATE: it is none.")
    void p05_aPageThatIsNone() {
        FieldOvens x = new FieldOvens();
        refused(x, "the empty page", STATE, x::land);
        Check.write(x, EIGHT + OVENS);
        x.letters('x');
        refused(x, "a letter too many", STATE, x::land);
        FieldOvens y = made("9w,9" + OVENS, "1:f", "0d0-0");
        Check.write(y, "9w,9;b1d0");
        refused(y, "one with a land ahead", STATE, y::land);
        due("the land ahead", y.place(0, 0), 9);
    }

    @Says("THE PAGE is read as THE LAND (another one is gone; MARCHES and PLANS stay)")
    void p05_anotherOneIsGone() {
        FieldOvens x = made(EIGHT + ";b99d9k9r999", "1:f", "0d0-0");
        due("two places", Check.land(x, "5w,6;b2d3k4"), 2);
        due("digest()", x.digest(), digestOf(2, 2, 3, 4, 0, 5, 1, 6, 0, 1, 1, 1, 4, 0, 0, 1, 1, 2, 1, 1, 0, 2, 0));
        due("place 2 is gone", x.place(2, 0), UNKNOWN);
    }

    @Says("THE PAGE is read as THE LAND (another one is gone; MARCHES and PLANS stay)")
    void p05_noAnswerOfTheOneAhead() {
        FieldOvens x = made("9w,0w;b9d0k9", "1:sf", "0d0-0,1d1-1");
        x.plan(3, 1, 0);
        due("hungry", x.hungry(0, 0, 0), 0);
        due("carried", x.carried(0, 0, 0), 1);
        due("best", x.stand(1, 0, 11), 0);
        Check.land(x, "0w,9w;b9d0k9");
        due("hungry then", x.hungry(0, 0, 0), 1);
        due("carried then", x.carried(0, 0, 0), 0);
        due("best then", x.stand(1, 0, 11), 1);
    }

    @Says("PLACES (2 to 8) with \",\" between")
    void p05_twoToEightPlaces() {
        atFault(LAND, "1", 1);
        atFault(LAND, "1" + OVENS, 1);
        due("2", taken(LAND, "1,2" + OVENS).count(0), 2);
        due("8", taken(LAND, EIGHT + OVENS).count(0), 8);
        atFault(LAND, EIGHT + ",9" + OVENS, 15);
        atFault(LAND, EIGHT + ",", 15);
        atFault(LAND, "1,2,", 4);
        atFault(LAND, "1,2," + OVENS, 4);
        atFault(LAND, ",1", 0);
    }

    @Says("FLOUR (one to three digits; hundreds of rations)")
    void p05_oneToThreeDigitsOfFlour() {
        atFault(LAND, ",1" + OVENS, 0);
        atFault(LAND, "w,1" + OVENS, 0);
        atFault(LAND, "1,,2" + OVENS, 2);
        String[] texts = {"0", "9", "00", "99", "000", "007", "999"};
        int[] flour = {0, 9, 0, 99, 0, 7, 999};
        for (int i = 0; i < texts.length; i++) {
            FieldOvens x = taken(LAND, texts[i] + "," + texts[i] + "w" + OVENS);
            due("town of " + texts[i], x.place(0, 0), flour[i]);
            due("place 1 of " + texts[i], x.place(1, 0), flour[i]);
        }
        atFault(LAND, "1000,1" + OVENS, 3);
        atFault(LAND, "1,0000" + OVENS, 5);
        for (char other : new char[] {'/', ':', '-', ' '}) atFault(LAND, other + ",1", 0);
    }

    @Says("and perhaps \"w\" (WOOD)")
    void p05_woodOnceAtMost() {
        FieldOvens x = taken(LAND, "1,2w" + OVENS);
        due("none", x.place(0, 1), 0);
        due("wood", x.place(1, 1), 1);
        atFault(LAND, "1ww,2" + OVENS, 2);
        atFault(LAND, "1w1,2" + OVENS, 2);
        atFault(LAND, "1W,2" + OVENS, 1);
    }

    @Says("then \";b\" and BAKES (one or two digits, the first 1 to 9; hundreds a DAY)")
    void p05_bakesOneOrTwoDigits() {
        int[] bakes = {1, 9, 10, 99};
        for (int b : bakes) due("b" + b, taken(LAND, "1,2;b" + b + "d0k1").landTold(1), b);
        atFault(LAND, "1,2;b0d0k1", 5);
        atFault(LAND, "1,2;b01d0k1", 5);
        atFault(LAND, "1,2;bd0k1", 5);
        atFault(LAND, "1,2;b100d0k1", 7);
        atFault(LAND, "1,2;1d0k1", 4);
        atFault(LAND, "1,2b1d0k1", 3);
    }

    @Says("\"d\" and BUILD (a digit; DAYS)")
    void p05_buildIsADigit() {
        for (int d = 0; d <= 9; d += 9) due("d" + d, taken(LAND, "1,2;b1d" + d + "k1").landTold(2), d);
        atFault(LAND, "1,2;b1dk1", 7);
        atFault(LAND, "1,2;b1d10k1", 8);
        atFault(LAND, "1,2;b1d-1k1", 7);
    }

    @Says("\"k\" and KEEP (a digit 1 to 9; DAYS)")
    void p05_keep1To9() {
        for (int k = 1; k <= 9; k += 8) due("k" + k, taken(LAND, "1,2;b1d0k" + k).landTold(3), k);
        atFault(LAND, "1,2;b1d0k0", 9);
        atFault(LAND, "1,2;b1d0k10", 10);
        atFault(LAND, "1,2;b1d0k", 9);
        atFault(LAND, "1,2;b1d0kr1", 9);
    }

    @Says("then perhaps \"r\" and BISCUIT (one to three digits; hundreds)")
    void p05_biscuitOneToThreeDigits() {
        due("none", taken(LAND, "1,2" + OVENS).landTold(4), 0);
        String[] texts = {"0", "9", "10", "000", "012", "999"};
        int[] biscuit = {0, 9, 10, 0, 12, 999};
        for (int i = 0; i < texts.length; i++) {
            due("r" + texts[i], taken(LAND, "1,2" + OVENS + "r" + texts[i]).landTold(4), biscuit[i]);
        }
        atFault(LAND, "1,2" + OVENS + "r", 11);
        atFault(LAND, "1,2" + OVENS + "r0000", 14);
        atFault(LAND, "1,2" + OVENS + "rr", 11);
        atFault(LAND, "1,2" + OVENS + "1", 10);
    }

    @Says("(sort 0; PLACES as many as told)")
    void p05_theLongestText() {
        String longest = "999w" + ",999w".repeat(7) + ";b99d9k9r999";
        FieldOvens x = taken(LAND, longest);
        due("all flour", x.image(), 7992);
        atFault(LAND, longest + "9", longest.length());
    }

    // ---- 6 march

    @Says({"MARCHES (4 at most, numbered)", "STATE: it is none; FULL."})
    void p06_fourAtMost() {
        FieldOvens x = new FieldOvens();
        for (int i = 0; i < 4; i++) due("number", Check.march(x, (i + 1) + ":f"), i);
        Check.write(x, "5:f");
        refused(x, "the fifth", FULL, x::march);
        due("letters", x.count(3), 3);
        for (int i = 0; i < 4; i++) due("men of march " + i, x.marchTold(i, 10), i + 1);
    }

    @Says("Refusals, of several the first as told by each call")
    void p06_stateAheadOfFull() {
        FieldOvens x = new FieldOvens();
        for (int i = 0; i < 4; i++) Check.march(x, "1:f");
        refused(x, "the empty page", STATE, x::march);
        Check.write(x, "5:");
        refused(x, "no march", STATE, x::march);
    }

    @Says("STATE: it is none; FULL.")
    void p06_aPageThatIsNone() {
        FieldOvens x = new FieldOvens();
        refused(x, "the empty page", STATE, x::march);
        Check.write(x, "5:f3m");
        refused(x, "m alone", STATE, x::march);
        due("with its number", Check.march(x, "7"), 0);
        due("days", x.marchTold(0, 0), 3);
    }

    @Says("MEN (one or two digits, the first 1 to 9; hundreds), \":\", and ITEMS")
    void p06_menOneOrTwoDigits() {
        for (int men : new int[] {1, 9, 10, 99}) due("men", taken(MARCH, men + ":f").marchTold(0, 10), men);
        atFault(MARCH, "0:f", 0);
        atFault(MARCH, "01:f", 0);
        atFault(MARCH, ":f", 0);
        atFault(MARCH, "100:f", 2);
        atFault(MARCH, "1f", 1);
        atFault(MARCH, "1::f", 2);
        atFault(MARCH, "1", 1);
        atFault(MARCH, "1:", 2);
    }

    @Says("each perhaps with a digit 2 to 9 (so many DAYS)")
    void p06_aDigit2To9() {
        for (String step : new String[] {"f", "b", "s"}) {
            due(step, taken(MARCH, "1:" + step).marchTold(0, 0), 1);
            due(step + 2, taken(MARCH, "1:" + step + 2).marchTold(0, 0), 2);
            due(step + 9, taken(MARCH, "1:" + step + 9).marchTold(0, 0), 9);
            atFault(MARCH, "1:" + step + 0, 3);
            atFault(MARCH, "1:" + step + 1, 3);
            atFault(MARCH, "1:" + step + 22, 4);
        }
    }

    @Says("\"c\" and a digit 1 to 9 (a DAY: forward with so many tenths, else it stands; two of them at most)")
    void p06_tenths1To9() {
        due("c1", taken(MARCH, "1:c1").marchTold(0, 20), 1);
        due("c9", taken(MARCH, "1:c9").marchTold(0, 20), 9);
        atFault(MARCH, "1:c0", 3);
        atFault(MARCH, "1:c10", 4);
        atFault(MARCH, "1:c", 3);
        atFault(MARCH, "1:cc", 3);
        due("a chance is a day", taken(MARCH, "1:c9").marchTold(0, 0), 1);
    }

    @Says("two of them at most")
    void p06_twoChancesAtMost() {
        due("two", taken(MARCH, "1:c1c9").marchTold(0, 1), 2);
        due("two, and others", taken(MARCH, "1:fc1sc9b").marchTold(0, 1), 2);
        atFault(MARCH, "1:c1c9c5", 6);
        atFault(MARCH, "1:c1fc9fc", 8);
    }

    @Says("\"m\" and one or two digits, the first 1 to 9 (MEN from then on)")
    void p06_menFromThenOn() {
        for (int men : new int[] {1, 9, 10, 99}) {
            FieldOvens x = taken(MARCH, "5:fm" + men + "s");
            due("ahead", x.marchTold(0, 10), 5);
            due("then", x.marchTold(0, 11), men);
        }
        atFault(MARCH, "5:m0", 3);
        atFault(MARCH, "5:m01", 3);
        atFault(MARCH, "5:m100", 5);
        atFault(MARCH, "5:mf", 3);
        FieldOvens twice = taken(MARCH, "5:m7m8f");
        due("the last of two", twice.marchTold(0, 10), 8);
    }

    @Says("One to ten DAYS in all, numbered from 0")
    void p06_oneToTenDays() {
        atFault(MARCH, "5:m7", 4);
        due("one", taken(MARCH, "5:s").marchTold(0, 0), 1);
        due("ten", taken(MARCH, "5:s9s").marchTold(0, 0), 10);
        due("ten by one each", taken(MARCH, "5:fbsfbsfbsf").marchTold(0, 0), 10);
        for (String step : new String[] {"f", "b", "s", "c"}) {
            atFault(MARCH, "5:s9s" + step, 5);
            atFault(MARCH, "5:fbsfbsfbsf" + step + "5", 12);
        }
    }

    @Says("(an ITEM by which there would be more cannot stand; of its digit just what is left)")
    void p06_ofItsDigitJustWhatIsLeft() {
        for (int gone = 1; gone <= 8; gone++) {
            String start = gone == 1 ? "5:f" : "5:f" + gone;
            int left = 10 - gone;
            due(left + " left", taken(MARCH, start + "s" + left).marchTold(0, 0), 10);
            if (left < 9) atFault(MARCH, start + "s" + (left + 1), start.length() + 1);
        }
        due("one left", taken(MARCH, "5:f9s").marchTold(0, 0), 10);
        atFault(MARCH, "5:f9s2", 5);
    }

    @Says("(an ITEM by which there would be more cannot stand; of its digit just what is left)")
    void p06_chancesAreAmongTheTen() {
        due("the tenth by chance", taken(MARCH, "5:f9c5").marchTold(0, 0), 10);
        atFault(MARCH, "5:f9fc", 5);
        due("one and nine", taken(MARCH, "5:c5f9").marchTold(0, 0), 10);
        atFault(MARCH, "5:c5c5f9", 7);
        due("two and eight", taken(MARCH, "5:c5c5f8").marchTold(0, 0), 10);
        due("men behind the tenth", taken(MARCH, "5:f9fm7").marchTold(0, 19), 5);
    }

    // ---- 7 plan

    @Says("PLANS (8 at most, numbered)")
    void p07_eightAtMost() {
        FieldOvens x = new FieldOvens();
        for (int i = 0; i < 7; i++) due("number", x.plan(i % 3, 1, 1), i);
        due("the eighth, a told one", Check.told(x, "0d0-0"), 7);
        refused(x, "the ninth", FULL, () -> x.plan(0, 1, 0));
        refused(x, "the ninth, a best", FULL, () -> x.plan(3, 2, 0));
        due("eight", x.count(2), 8);
    }

    @Says("OUTSIDE: kind (0 to 3), k, n; FULL.")
    void p07_kindsJustOutside() {
        FieldOvens x = new FieldOvens();
        for (int kind : new int[] {-1, 4, 5, LEAST, MOST}) {
            for (int n = 0; n <= 1; n++) {
                int number = n;
                refused(x, "plan(" + kind + ", 1, " + n + ")", OUTSIDE, () -> x.plan(kind, 1, number));
                refused(x, "plan(" + kind + ", 0, " + n + ")", OUTSIDE, () -> x.plan(kind, 0, number));
            }
        }
    }

    @Says("with k OVENS (1 to 3; BEST 1, 2; TOLD 0) and a number n.")
    void p07_ovensJustOutside() {
        FieldOvens x = new FieldOvens();
        for (int kind = 0; kind <= 3; kind++) {
            int most = kind == 3 ? 2 : 3, n = kind == 3 ? 0 : 1, of = kind;
            due("one oven", x.plan(kind, 1, n), 2 * kind);
            due(most + " ovens", x.plan(kind, most, n), 2 * kind + 1);
            for (int k : new int[] {-1, 0, most + 1, LEAST, MOST}) {
                refused(x, "plan(" + kind + ", " + k + ", " + n + ")", OUTSIDE, () -> x.plan(of, k, n));
            }
        }
    }

    @Says({"A BASE: k STANDS at PLACE n (0 to 7)", "A FOLLOW, n STAY (1 to 9)", "A BEST (n 0)"})
    void p07_numbersJustOutside() {
        int[] least = {0, 1, 1, 0}, most = {7, 9, 9, 0};
        FieldOvens x = new FieldOvens();
        for (int kind = 0; kind <= 3; kind++) {
            int of = kind;
            due("the least n", x.plan(kind, 1, least[kind]), 2 * kind);
            due("the most n", x.plan(kind, 1, most[kind]), 2 * kind + 1);
            for (int n : new int[] {least[kind] - 1, most[kind] + 1, LEAST, MOST}) {
                refused(x, "plan(" + kind + ", 1, " + n + ")", OUTSIDE, () -> x.plan(of, 1, n));
            }
        }
    }

    @Says("Refusals, of several the first as told by each call")
    void p07_outsideAheadOfFull() {
        FieldOvens x = new FieldOvens();
        for (int i = 0; i < 8; i++) x.plan(0, 1, i % 8);
        refused(x, "kind", OUTSIDE, () -> x.plan(4, 1, 0));
        refused(x, "k", OUTSIDE, () -> x.plan(0, 4, 0));
        refused(x, "n", OUTSIDE, () -> x.plan(0, 1, 8));
        refused(x, "none of them", FULL, () -> x.plan(0, 3, 7));
    }

    // ---- 8 tell

    @Says("STANDS (one to six) with \",\" between")
    void p08_oneToSixStands() {
        String six = "0d0-0,1d0-0,2d0-0,3d0-0,4d0-0,5d0-0";
        taken(TOLD, "0d0-0");
        FieldOvens x = taken(TOLD, six);
        Check.land(x, "1w,1w,1w,1w,1w,1w,1w,1w" + OVENS);
        Check.march(x, "1:s");
        due("six", x.stand(0, 0, 0), 6);
        atFault(TOLD, "", 0);
        atFault(TOLD, six + ",", 35);
        atFault(TOLD, six + ",6d0-0", 35);
        atFault(TOLD, "0d0-0,", 6);
        atFault(TOLD, "0d0-0,,", 6);
        atFault(TOLD, ",0d0-0", 0);
    }

    @Says("a PLACE (a digit 0 to 7)")
    void p08_aPlace0To7() {
        taken(TOLD, "0d0-0");
        taken(TOLD, "7d0-0");
        atFault(TOLD, "8d0-0", 0);
        atFault(TOLD, "9d0-0", 0);
        atFault(TOLD, "00d0-0", 1);
        atFault(TOLD, "d0-0", 0);
        atFault(TOLD, "0d0-0,8d0-0", 6);
    }

    @Says("\"d\", a DAY, \"-\", a DAY (one or two digits each)")
    void p08_daysOfOneOrTwoDigits() {
        for (String days : new String[] {"0-0", "9-9", "00-00", "99-99", "0-99", "99-0", "09-1"}) taken(TOLD, "0d" + days);
        atFault(TOLD, "0d-0", 2);
        atFault(TOLD, "0d0-", 4);
        atFault(TOLD, "0d0", 3);
        atFault(TOLD, "0d000-0", 4);
        atFault(TOLD, "0d0-000", 6);
        atFault(TOLD, "0d0--0", 4);
        atFault(TOLD, "0d0,", 3);
    }

    @Says({"THE PAGE is read as a TOLD plan: its number; THE PAGE is empty then.", "TOLD 0"})
    void p08_theLongestText() {
        String longest = "7d99-99" + ",7d99-99".repeat(5);
        FieldOvens x = taken(TOLD, longest);
        due("digest()", x.digest(), digestOf(4, 0, 0, 0, 0, 1, 0, 0, 0));
        atFault(TOLD, longest + "9", 47);
    }

    @Says({"PLANS (8 at most, numbered)", "STATE: it is none; FULL."})
    void p08_eightAtMost() {
        FieldOvens x = new FieldOvens();
        for (int i = 0; i < 8; i++) due("number", Check.told(x, i + "d0-0"), i);
        refused(x, "the empty page: state ahead of full", STATE, x::tell);
        Check.write(x, "0d0-0");
        refused(x, "the ninth", FULL, x::tell);
        due("letters", x.count(3), 5);
        Check.write(x, ",");
        refused(x, "no plan: state ahead of full", STATE, x::tell);
    }

    // ---- 9 as

    private static FieldOvens ofAllKinds() {
        FieldOvens x = new FieldOvens();
        Check.told(x, "0d0-0");
        x.plan(3, 1, 0);
        x.plan(2, 1, 1);
        x.plan(1, 1, 1);
        x.plan(0, 1, 0);
        return x;
    }

    @Says("its own number (not that of the KIND); NONE: it is none such (the cast fails).")
    void p09_ownNumbers() {
        FieldOvens x = ofAllKinds();
        int[][] due = {{0, NONE, NONE, NONE, 0}, {1, NONE, NONE, 1, NONE}, {2, 2, 2, NONE, NONE},
            {3, 3, NONE, NONE, NONE}, {4, NONE, NONE, NONE, NONE}};
        for (int plan = 0; plan < 5; plan++) {
            for (int kind = 0; kind < 5; kind++) due("as(" + plan + ", " + kind + ")", x.as(plan, kind), due[plan][kind]);
        }
    }

    @Says("All are BASES; a LEAP is a FOLLOW, too.")
    void p09_basesAndFollows() {
        FieldOvens x = ofAllKinds();
        for (int plan = 0; plan < 5; plan++) due("a base", x.as(plan, 0), plan);
        due("a leap as a follow", x.as(2, 1), 2);
        due("a follow as a leap", x.as(3, 2), NONE);
    }

    @Says("UNKNOWN; OUTSIDE.")
    void p09_plansAndKindsJustOutside() {
        FieldOvens x = ofAllKinds();
        for (int plan : new int[] {-1, 5, 7, 8, LEAST, MOST}) {
            refused(x, "as(" + plan + ", 0)", UNKNOWN, () -> x.as(plan, 0));
            refused(x, "unknown ahead of outside", UNKNOWN, () -> x.as(plan, 5));
        }
        for (int kind : new int[] {-1, 5, LEAST, MOST}) {
            refused(x, "as(0, " + kind + ")", OUTSIDE, () -> x.as(0, kind));
            refused(x, "as(4, " + kind + ")", OUTSIDE, () -> x.as(4, kind));
        }
        FieldOvens none = new FieldOvens();
        refused(none, "no plan", UNKNOWN, () -> none.as(0, 0));
    }

    @Says("UNKNOWN; OUTSIDE.")
    void p09_theLastOfEight() {
        FieldOvens x = new FieldOvens();
        for (int i = 0; i < 8; i++) x.plan(3, 1, 0);
        due("as(7, 3)", x.as(7, 3), 7);
        refused(x, "as(8, 3)", UNKNOWN, () -> x.as(8, 3));
    }

    // ---- 10 landTold

    @Says("STATE: there is none; OUTSIDE.")
    void p10_withoutALand() {
        FieldOvens x = new FieldOvens();
        for (int what : new int[] {0, 4, -1, 5, LEAST, MOST}) {
            refused(x, "landTold(" + what + ")", STATE, () -> x.landTold(what));
        }
    }

    @Says("what = 0 PLACES, 1 BAKES, 2 BUILD, 3 KEEP, 4 BISCUIT (0: none).")
    void p10_theLeastAndTheMost() {
        FieldOvens x = taken(LAND, "0,0;b1d0k1");
        int[] least = {2, 1, 0, 1, 0}, most = {8, 99, 9, 9, 999};
        for (int what = 0; what <= 4; what++) due("least, " + what, x.landTold(what), least[what]);
        Check.land(x, EIGHT + ";b99d9k9r999");
        for (int what = 0; what <= 4; what++) due("most, " + what, x.landTold(what), most[what]);
        for (int what : new int[] {-1, 5, LEAST, MOST}) {
            refused(x, "landTold(" + what + ")", OUTSIDE, () -> x.landTold(what));
        }
    }

    // ---- 11 place

    @Says("UNKNOWN (without a LAND, too); OUTSIDE.")
    void p11_withoutALand() {
        FieldOvens x = new FieldOvens();
        for (int place : new int[] {-1, 0, 7, 8, LEAST, MOST}) {
            refused(x, "place(" + place + ", 0)", UNKNOWN, () -> x.place(place, 0));
            refused(x, "place(" + place + ", 2)", UNKNOWN, () -> x.place(place, 2));
        }
    }

    @Says("UNKNOWN (without a LAND, too); OUTSIDE.")
    void p11_placesJustOutside() {
        FieldOvens x = taken(LAND, "5w,6" + OVENS);
        due("the first", x.place(0, 0), 5);
        due("the last", x.place(1, 0), 6);
        for (int place : new int[] {-1, 2, 8, LEAST, MOST}) {
            refused(x, "place(" + place + ", 0)", UNKNOWN, () -> x.place(place, 0));
            refused(x, "unknown ahead of outside", UNKNOWN, () -> x.place(place, -1));
        }
        FieldOvens eight = taken(LAND, EIGHT + "w" + OVENS);
        due("the last of eight", eight.place(7, 0), 8);
        due("its wood", eight.place(7, 1), 1);
        refused(eight, "place(8, 0)", UNKNOWN, () -> eight.place(8, 0));
    }

    @Says("what = 0 FLOUR, 1 whether it has WOOD (1, 0).")
    void p11_whatJustOutside() {
        FieldOvens x = taken(LAND, "5w,6" + OVENS);
        due("wood", x.place(0, 1), 1);
        due("no wood", x.place(1, 1), 0);
        for (int what : new int[] {-1, 2, LEAST, MOST}) {
            refused(x, "place(1, " + what + ")", OUTSIDE, () -> x.place(1, what));
        }
    }

    // ---- 12 flour

    @Says("FLOUR of a PLACE becomes v (0 to 999): what it was.")
    void p12_0To999() {
        FieldOvens x = taken(LAND, "5w,6" + OVENS);
        for (int place = 0; place <= 1; place++) {
            int of = place;
            due("to 0", x.flour(place, 0), 5 + place);
            due("to 999", x.flour(place, 999), 0);
            for (int v : new int[] {-1, 1000, LEAST, MOST}) {
                refused(x, "flour(" + place + ", " + v + ")", OUTSIDE, () -> x.flour(of, v));
            }
            due("it stays", x.place(place, 0), 999);
            due("the same again", x.flour(place, 999), 999);
        }
    }

    @Says("UNKNOWN; OUTSIDE.")
    void p12_placesJustOutside() {
        FieldOvens none = new FieldOvens();
        refused(none, "without a land", UNKNOWN, () -> none.flour(0, 0));
        refused(none, "without a land, and outside", UNKNOWN, () -> none.flour(0, 1000));
        FieldOvens x = taken(LAND, EIGHT + OVENS);
        due("the first", x.flour(0, 7), 1);
        due("the last", x.flour(7, 7), 8);
        for (int place : new int[] {-1, 8, LEAST, MOST}) {
            refused(x, "flour(" + place + ", 0)", UNKNOWN, () -> x.flour(place, 0));
            refused(x, "unknown ahead of outside", UNKNOWN, () -> x.flour(place, -1));
        }
    }

    // ---- 13 marchTold

    @Says("OUTSIDE: what (10 to 19, 20, 21 else).")
    void p13_whatJustOutside() {
        FieldOvens x = new FieldOvens();
        Check.march(x, "5:c1f8c9");
        due("days", x.marchTold(0, 0), 10);
        due("chances", x.marchTold(0, 1), 2);
        due("the first day", x.marchTold(0, 10), 5);
        due("the last day", x.marchTold(0, 19), 5);
        due("the first tenths", x.marchTold(0, 20), 1);
        due("the last tenths", x.marchTold(0, 21), 9);
        for (int what : new int[] {-1, 2, 9, 22, 30, LEAST, MOST}) {
            refused(x, "marchTold(0, " + what + ")", OUTSIDE, () -> x.marchTold(0, what));
        }
    }

    @Says("10 and d MEN on DAY d (NONE), 20 and i the tenths of the i-th DAY by chance (NONE).")
    void p13_noneBehindTheLast() {
        FieldOvens x = new FieldOvens();
        Check.march(x, "5:f");
        Check.march(x, "99:f8c3");
        due("the only day", x.marchTold(0, 10), 5);
        for (int what = 11; what <= 19; what++) due("marchTold(0, " + what + ")", x.marchTold(0, what), NONE);
        due("no chance", x.marchTold(0, 20), NONE);
        due("no second chance", x.marchTold(0, 21), NONE);
        due("day 8", x.marchTold(1, 18), 99);
        due("day 9", x.marchTold(1, 19), NONE);
        due("the first chance", x.marchTold(1, 20), 3);
        due("none behind it", x.marchTold(1, 21), NONE);
    }

    @Says("UNKNOWN; OUTSIDE: what (10 to 19, 20, 21 else).")
    void p13_marchesJustOutside() {
        FieldOvens none = new FieldOvens();
        refused(none, "no march", UNKNOWN, () -> none.marchTold(0, 0));
        FieldOvens x = new FieldOvens();
        for (int i = 0; i < 4; i++) {
            Check.march(x, (i + 1) + ":f");
            int next = i + 1;
            due("the last march", x.marchTold(i, 10), i + 1);
            refused(x, "the next", UNKNOWN, () -> x.marchTold(next, 10));
        }
        for (int march : new int[] {-1, 4, LEAST, MOST}) {
            refused(x, "marchTold(" + march + ", 0)", UNKNOWN, () -> x.marchTold(march, 0));
            refused(x, "unknown ahead of outside", UNKNOWN, () -> x.marchTold(march, 2));
        }
    }

    // ---- 14 at

    @Says("OUTSIDE: way (0 to 2 to the number of DAYS by chance, less 1).")
    void p14_waysJustOutside() {
        FieldOvens x = taken(LAND, "0,0" + OVENS);
        Check.march(x, "1:f");
        Check.march(x, "1:c5");
        Check.march(x, "1:c5c5");
        for (int march = 0; march <= 2; march++) {
            int of = march, last = (1 << march) - 1;
            due("way 0", x.at(march, 0, 0), march == 0 ? 1 : 0);
            due("the way on", x.at(march, last, 0), 1);
            for (int way : new int[] {-1, last + 1, LEAST, MOST}) {
                refused(x, "at(" + march + ", " + way + ", 0)", OUTSIDE, () -> x.at(of, way, 0));
            }
        }
    }

    @Says("UNKNOWN: march, day; STATE: there is no LAND;")
    void p14_daysAndMarchesJustOutside() {
        FieldOvens x = taken(LAND, "0,0" + OVENS);
        refused(x, "no march", UNKNOWN, () -> x.at(0, 0, 0));
        Check.march(x, "1:f");
        Check.march(x, "1:s9f");
        due("the only day", x.at(0, 0, 0), 1);
        due("the last day", x.at(1, 0, 9), 1);
        for (int day : new int[] {-1, 1, LEAST, MOST}) {
            refused(x, "at(0, 0, " + day + ")", UNKNOWN, () -> x.at(0, 0, day));
            refused(x, "unknown ahead of outside", UNKNOWN, () -> x.at(0, 1, day));
        }
        refused(x, "at(1, 0, 10)", UNKNOWN, () -> x.at(1, 0, 10));
        for (int march : new int[] {-1, 2, 4, LEAST, MOST}) {
            refused(x, "at(" + march + ", 0, 0)", UNKNOWN, () -> x.at(march, 0, 0));
        }
    }

    @Says({"UNKNOWN: march, day; STATE: there is no LAND;", "Without a LAND: STATE behind UNKNOWN."})
    void p14_withoutALand() {
        FieldOvens x = new FieldOvens();
        Check.march(x, "1:f");
        refused(x, "state", STATE, () -> x.at(0, 0, 0));
        refused(x, "state ahead of outside", STATE, () -> x.at(0, 1, 0));
        refused(x, "unknown day ahead of state", UNKNOWN, () -> x.at(0, 0, 1));
        refused(x, "unknown march ahead of state", UNKNOWN, () -> x.at(1, 0, 0));
    }

    @Says("beyond the last PLACE, behind the TOWN it does not go (it stands).")
    void p14_itStandsAtBothEnds() {
        FieldOvens two = made("0,0" + OVENS, "1:b2f3b3f2");
        int[] column = {0, 0, 1, 1, 1, 0, 0, 0, 1, 1};
        for (int day = 0; day < 10; day++) due("two places, day " + day, two.at(0, 0, day), column[day]);
        FieldOvens eight = made(EIGHT + OVENS, "1:f9b");
        for (int day = 0; day < 9; day++) due("eight places, day " + day, eight.at(0, 0, day), Math.min(7, day + 1));
        due("back by one", eight.at(0, 0, 9), 6);
    }

    @Says("The column is in PLACE 0 ahead of DAY 0; each DAY it first goes, then eats where it is")
    void p14_itGoesOnDay0() {
        FieldOvens x = made("0,0,0" + OVENS, "1:f");
        Check.march(x, "1:s");
        Check.march(x, "1:b");
        due("forward", x.at(0, 0, 0), 1);
        due("it stands", x.at(1, 0, 0), 0);
        due("back", x.at(2, 0, 0), 0);
    }

    @Says("PLACE 0 is the TOWN; from one to the next is a DAY.")
    void p14_aPlaceADay() {
        FieldOvens x = made(EIGHT + OVENS, "1:f7");
        for (int day = 0; day < 7; day++) due("day " + day, x.at(0, 0, day), day + 1);
    }

    @Says("A WAY of a MARCH is told by bits: bit i is 1, if it goes forward on its i-th DAY by chance.")
    void p14_bitsOfAWay() {
        FieldOvens x = made("0,0,0" + OVENS, "1:sc1sc9");
        int[][] columns = {{0, 0, 0, 0}, {0, 1, 1, 1}, {0, 0, 0, 1}, {0, 1, 1, 2}};
        for (int way = 0; way < 4; way++) {
            for (int day = 0; day < 4; day++) due("way " + way + ", day " + day, x.at(0, way, day), columns[way][day]);
        }
    }
}
