import java.util.List;

/** The edges of what is asked (Terms II to IV, promises 15 to 43): for each sentence that names one, a test of its own. */
public final class AskEdgesTest {
    private static final int MOST = Integer.MAX_VALUE;
    private static final int LEAST = Integer.MIN_VALUE;
    private static final String NO_WEIGHTS = "w00;w10;w20;w30;w40;w50;";

    public static void main(String[] args) {
        oddsAllWeighNothing();
        oddsCouldNotBe();
        oddsInLowestTerms();
        looksOfEmpty();
        looksOfSeveralTheLeast();
        looksOfNoneCouldBe();
        packNone();
        packOfSeveralTheLeast();
        dearestOfSeveralTheLeast();
        ropeNone();
        ropeFirst();
        wantedByNone();
        wantedWithoutDays();
        apartWithoutTwo();
        apartOfEight();
        tellNone();
        tellOfSeveralTheLeast();
        codesWithoutThings();
        codesOfAll();
        smallestAtItsEnds();
        smallestNone();
        smallestOfSeveralTheLeast();
        eggAndRopeWithoutTwo();
        eggAndRopeOneAtLeast();
        eggAndRopeFirst();
        gotInWithoutDays();
        gotInWithoutLikeliest();
        gotInMoreThanLeft();
        orderWithoutDays();
        orderOfSevenAtMost();
        orderMoreThanDays();
        orderPlaces();
        orderOfSeveralTheFirst();
        planOfNothing();
        planNotJustTheLeast();
        planOfEight();
        spareOfNothing();
        spareEachByItself();
        whatKindEmptyRow();
        whatKindNotTold();
        whatKindSixNumbers();
        whatKindNone();
        worthNotAboveNothing();
        worthWithoutLikeliest();
        worthAtMost();
        betAlike();
        betBothTheSame();
        wrongOfNoDays();
        wrongAtItsEnds();
        wrongIsTheLikeliest();
        wrongWithoutLikeliest();
        wrongFirstDaysAlone();
        judgedNine();
        judgedNoSuchDay();
        judgedNoneThen();
        lotsWithoutThings();
        lotsEachFromNow();
        lotsHadNone();
        lotsDraws();
        lotsWrap();
        lightestNone();
        lightestOfSeveralTheLeast();
        swapNone();
        swapNeitherInBoth();
        swapMoreThanNow();
        swapFirst();
        oftenNone();
        oftenOfSeveralTheLeast();
        sureOfEmpty();
        canNot();
        meanOfNone();
        meanInLowestTerms();
        needOfNothing();
        needOfSeveralTheLeast();
        dropNone();
        dropOfSeveralTheLeast();
        asksChangeNothing();
        Due.close();
    }

    private static void is(String call, long got, long want) {
        Due.is(call, got, want);
    }

    private static HamperByWeather hall(String text) {
        return Due.hall(text);
    }

    private static void fraction(String call, long above, long below, long wantAbove, long wantBelow) {
        is(call + ", above", above, wantAbove);
        is(call + ", below", below, wantBelow);
    }

    private static void odds(String call, HamperByWeather x, int day, int weather, long above, long below) {
        fraction(call, x.odds(day, weather, 0), x.odds(day, weather, 1), above, below);
    }

    private static void worth(String call, HamperByWeather x, int day, long above, long below) {
        fraction(call, x.worth(day, 0), x.worth(day, 1), above, below);
    }

    private static void wrong(String call, HamperByWeather x, int n, int t, long above, long below) {
        fraction(call, x.wrong(n, t, 0), x.wrong(n, t, 1), above, below);
    }

    private static void mean(String call, HamperByWeather x, long above, long below) {
        fraction(call, x.mean(0), x.mean(1), above, below);
    }

    /** "ODDS: .. (0 by 1, if all of these weigh 0)". */
    private static void oddsAllWeighNothing() {
        HamperByWeather x = hall("t20;d001;d000;w10;w20;w50;");
        odds("all of these weigh 0", x, 0, 1, 0, 1);
        odds("all of these weigh 0, another too", x, 0, 0, 0, 1);
        odds("of all there are others", x, 1, 1, 0, 1);
        odds("of all there are others", x, 1, 0, 1, 3);
        x.weighs(5, 9);
        odds("one weighs", x, 0, 5, 1, 1);
        odds("one weighs, another", x, 0, 1, 0, 1);
    }

    /** "how likely a WEATHER is of those that COULD BE": one that could not, or none could. */
    private static void oddsCouldNotBe() {
        HamperByWeather x = hall("t20;t10;t11;d001;d006;");
        odds("could not be", x, 0, 0, 0, 1);
        odds("could be", x, 0, 5, 1, 3);
        odds("none could be", x, 1, 0, 0, 1);
        odds("none could be", x, 1, 5, 0, 1);
    }

    /** "(Fractions are told in lowest terms; 0 as 0 over 1.)" */
    private static void oddsInLowestTerms() {
        HamperByWeather x = hall("d000;w09;w19;w29;w39;w49;w59;");
        odds("9 by 54", x, 0, 0, 1, 6);
        x.weighs(0, 3);
        odds("3 by 48", x, 0, 0, 1, 16);
        x.weighs(0, 0);
        odds("0 by 45", x, 0, 0, 0, 1);
        odds("9 by 45", x, 0, 5, 1, 5);
    }

    /** "by which alone COULD BE is as by all": none are needed where all could be. */
    private static void looksOfEmpty() {
        HamperByWeather x = hall("t50;t55;d000;d003;");
        is("empty", x.looks(0), 0);
        is("tells nothing", x.looks(1), 0);
        is("without THINGS", hall("d000;").looks(0), 0);
    }

    /** "LOOKS: the fewest THINGS of a HAMPER (bits, of several the least)". */
    private static void looksOfSeveralTheLeast() {
        HamperByWeather x = hall("t10;t12;t20;t20;d015;d003;d014;");
        is("of four twos the least", x.looks(0), 5);
        is("of two alike the least", x.looks(1), 1);
        is("just of its own THINGS", x.looks(2), 6);
        x = hall("t30;t00;t20;d007;d003;");
        is("one, though two are less", x.looks(0), 4);
        is("two, without that one", x.looks(1), 3);
    }

    /** "COULD BE is as by all", with none that could. */
    private static void looksOfNoneCouldBe() {
        HamperByWeather x = hall("t00;t01;t02;t03;t04;t05;t10;t11;d063;d255;");
        is("all six", x.looks(0), 63);
        is("two are fewest", x.looks(1), 192);
    }

    /** "PACK: .. -9 there is none". */
    private static void packNone() {
        HamperByWeather x = new HamperByWeather();
        is("no THINGS", x.pack(0, 0) * 100 + x.pack(5, 1), -909);
        x = hall("t20;t50;");
        is("not a WEATHER alone", x.pack(1, 0) * 100 + x.pack(1, 1), -909);
        x = hall("t20;t10;w20;");
        is("alone", x.pack(2, 0), 3);
        is("alone, of no WEIGHT", x.pack(2, 1), 3);
        is("another", x.pack(1, 0) * 100 + x.pack(0, 1), -909);
    }

    /** "of least HEAVY together, of several the least". */
    private static void packOfSeveralTheLeast() {
        is("of two alike", hall("t10;t10;t20;").pack(2, 0), 5);
        is("of two COATS, whatever their FIGURE", hall("t10;t29;t20;").pack(2, 0), 3);
        is("what weighs nothing is left", hall("t50;t10;t20;t50;").pack(2, 0), 6);
        is("the last", hall("t49;t12;t10;t29;").pack(2, 0), 12);
        is("by a fourth", hall("t20;t50;t50;t16;").pack(2, 0), 9);
        // 1 and 5 by a DISH 1 and a COAT, without 5 by a THING 5: 4, 4 and 6 heavy.
        is("three if no two do", hall("t05;t11;t20;").pack(1, 0), 7);
    }

    /** "DEAREST: likewise the most DEAR, of several the least". */
    private static void dearestOfSeveralTheLeast() {
        is("what costs nothing is left", hall("t10;t10;t20;").pack(2, 1), 5);
        is("all that costs is taken", hall("t12;t14;t20;t50;").pack(2, 1), 15);
        is("what makes another WEATHER is not", hall("t12;t20;t19;").pack(2, 1), 3);
        // A THING 2 with WEATHER 2 can't be; a THING 3 may.
        is("what goes with it alone", hall("t12;t02;t20;t03;").pack(2, 1), 13);
    }

    /** "ROPE: the first DAY whose HAMPER holds a ROPE; -9". */
    private static void ropeNone() {
        is("no DAYS", hall("t30;").rope(), -9);
        is("not packed", hall("t30;t20;d000;d002;").rope(), -9);
        is("another's kinds", hall("t00;t10;t20;t40;t50;d031;").rope(), -9);
    }

    /** "the first DAY" of several, or the last there is. */
    private static void ropeFirst() {
        HamperByWeather x = hall("t50;t50;t50;t50;t50;t50;t50;t30;d127;d127;d127;d127;d127;d127;d127;d128;");
        is("the last DAY, the last THING", x.rope(), 7);
        x.packs(4, 7);
        is("the first of two", x.rope(), 4);
        x.packs(0, 7);
        is("the first of three", x.rope(), 0);
        is("the first THING", hall("t30;d001;").rope(), 0);
    }

    /** "whose COULD BE holds none of WEATHERS a told FIELD WANTS": it wants none, or none could be. */
    private static void wantedByNone() {
        HamperByWeather x = hall("t20;t10;t11;d000;d001;d006;f0010;f1000;f2380;f3630;");
        is("wants 0", x.wanted(0), 6);
        is("wants none", x.wanted(1), 7);
        is("wants as a COAT", x.wanted(2), 4);
        is("wants all", x.wanted(3), 4);
    }

    /** "WANTED: DAYS (bits)": of no DAYS, and of eight. */
    private static void wantedWithoutDays() {
        HamperByWeather x = new HamperByWeather();
        x.wants(0, 0, 0);
        is("no DAYS", x.wanted(0), 0);
        x = hall("d000;d000;d000;d000;d000;d000;d000;d000;f0000;");
        is("eight DAYS", x.wanted(0), 255);
        is("none of eight", x.wanted(1), 0);
    }

    /** "APART: how many twos of DAYS": there are none without two. */
    private static void apartWithoutTwo() {
        is("no DAYS", new HamperByWeather().apart(), 0);
        is("one DAY", hall("t10;t11;d003;").apart(), 0);
        is("two", hall("t10;t11;d001;d002;").apart(), 1);
        is("two alike", hall("t10;d001;d001;").apart(), 0);
        is("one in common", hall("t10;t20;d001;d002;").apart(), 0);
        is("two with none, no WEATHER alike", hall("t10;t11;d003;d003;").apart(), 1);
    }

    /** "how many twos of DAYS have COULD BE with no WEATHER alike": of as many DAYS as there is room for. */
    private static void apartOfEight() {
        is("all", hall("t10;t11;d003;d003;d003;d003;d003;d003;d003;d003;").apart(), 28);
        is("four and four", hall("t10;t11;d001;d001;d001;d001;d002;d002;d002;d002;").apart(), 16);
        is("none", hall("d000;d000;d000;d000;d000;d000;d000;d000;").apart(), 0);
    }

    /** "TELL: .. -9". */
    private static void tellNone() {
        is("no THINGS", new HamperByWeather().tell(), -9);
        is("one", hall("t50;").tell(), 0);
        is("of no WEIGHT", hall("t50;t20;" + NO_WEIGHTS).tell(), 0);
    }

    /** "are least apart, of several the least". */
    private static void tellOfSeveralTheLeast() {
        is("of two", hall("t50;t20;t20;").tell(), 1);
        is("the last of eight", hall("t50;t50;t50;t50;t50;t50;t50;t20;").tell(), 7);
        // A COAT 8 of 11, a DISH 0 3 of 11: 5 apart either way.
        is("more or less alike", hall("t10;t20;w16;").tell(), 0);
        is("more or less alike", hall("t20;t10;w16;").tell(), 0);
    }

    /** "CODES: how many unlike COULD BE all sets of THINGS have": the empty set, too. */
    private static void codesWithoutThings() {
        HamperByWeather x = new HamperByWeather();
        is("one", x.codes(0), 1);
        is("SUNNY", x.codes(1), 63);
        x = hall("t50;t50;");
        is("alike", x.codes(0), 1);
        is("SUNNY", x.codes(1), 63);
        x = hall("t20;");
        is("two", x.codes(0), 2);
        is("SUNNY", x.codes(1), 62);
    }

    /** "SUNNY: how many of 64 sets of WEATHERS no set of THINGS leaves": none. */
    private static void codesOfAll() {
        HamperByWeather x = hall("t00;t01;t02;t03;t04;t05;");
        is("all", x.codes(0), 64);
        is("none left", x.codes(1), 0);
        x.thing(2, 0);
        x.thing(5, 9);
        is("all, by eight", x.codes(0), 64);
        is("all but half", hall("t00;t01;t02;t03;t04;").codes(1), 32);
    }

    /** "just a told set of WEATHERS (1 .. 63)". */
    private static void smallestAtItsEnds() {
        HamperByWeather x = hall("t00;t01;t02;t03;t04;t05;");
        is("63 by none", x.smallest(63), 0);
        is("1 by five", x.smallest(1), 62);
        is("32 by five", x.smallest(32), 31);
        is("62 by one", x.smallest(62), 1);
        is("0", x.smallest(0), -4);
        is("64", x.smallest(64), -6);
    }

    /** "SMALLEST: .. -9". */
    private static void smallestNone() {
        is("63 without THINGS", new HamperByWeather().smallest(63), 0);
        is("62 without THINGS", new HamperByWeather().smallest(62), -9);
        is("less of it", hall("t20;").smallest(36), -9);
        is("more of it", hall("t20;").smallest(39), -9);
        is("it", hall("t20;").smallest(38), 1);
    }

    /** "the fewest THINGS (bits, of several the least)". */
    private static void smallestOfSeveralTheLeast() {
        is("of two alike", hall("t50;t00;t06;").smallest(62), 2);
        is("one, though two are less", hall("t30;t00;t20;").smallest(38), 4);
        is("of four twos", hall("t20;t20;t10;t10;").smallest(4), 5);
    }

    /** "EGG AND ROPE: the two THINGS .. -9". */
    private static void eggAndRopeWithoutTwo() {
        is("no THINGS", new HamperByWeather().eggAndRope(), -9);
        is("one", hall("t50;").eggAndRope(), -9);
        is("two", hall("t50;t50;").eggAndRope(), 1);
    }

    /** "are fewest, but one at least". */
    private static void eggAndRopeOneAtLeast() {
        is("none together", hall("t10;t11;").eggAndRope(), -9);
        is("none together is not fewest", hall("t10;t11;t50;").eggAndRope(), 2);
        is("one together", hall("t10;t50;t20;").eggAndRope(), 2);
        is("none together, four", hall("t10;t43;t10;t43;").eggAndRope(), 13);
    }

    /** "(10 the lesser and the other) .. of several the first". */
    private static void eggAndRopeFirst() {
        is("of three", hall("t20;t20;t20;").eggAndRope(), 1);
        is("the last", hall("t50;t50;t50;t50;t50;t50;t20;t10;").eggAndRope(), 67);
        is("of two, by the lesser", hall("t50;t20;t10;t10;t20;").eggAndRope(), 12);
    }

    /** "GOT IN: all DAYS are SPENT": there are none. */
    private static void gotInWithoutDays() {
        HamperByWeather x = new HamperByWeather();
        is("nothing left", x.gotIn(0) * 100 + x.gotIn(1), 15);
        x.wants(1, 63, 9);
        x.wants(3, 63, 1);
        is("nothing done", x.gotIn(0) * 100 + x.gotIn(1), 5);
        x.wants(0, 63, 1);
        x.wants(2, 63, 1);
        is("none without", x.gotIn(1), 0);
    }

    /** "each with its LIKELIEST": one without does nothing. */
    private static void gotInWithoutLikeliest() {
        HamperByWeather x = hall("t10;t11;d003;d001;d003;d000;f0639;");
        is("two of four", x.gotIn(0), 2);
        x.packs(1, 1);
        x.packs(3, 1);
        is("the last alone", x.gotIn(0), 1);
        is("not DONE", x.count(2), 0);
    }

    /** "how much of LEFT is done; which FIELDS have none LEFT then": more DAYS than LEFT, and fewer. */
    private static void gotInMoreThanLeft() {
        HamperByWeather x = hall("d000;d000;d000;d000;d000;d000;d000;d000;f0633;f1634;f2000;f3009;");
        is("seven of eight", x.gotIn(0), 7);
        is("none left on three", x.gotIn(1), 7);
        x.wants(1, 63, 9);
        is("all eight", x.gotIn(0), 8);
        is("none left on two", x.gotIn(1), 5);
        x.wants(1, 63, 5);
        is("by all eight none left on three", x.gotIn(1), 7);
        x.wants(1, 63, 6);
        is("one too many", x.gotIn(1), 5);
        is("as it was", x.fieldOf(0, 1) + x.fieldOf(1, 1), 9);
    }

    /** "ORDER: the same DAYS": there are none. */
    private static void orderWithoutDays() {
        HamperByWeather x = new HamperByWeather();
        x.wants(0, 63, 9);
        is("that", x.order(1, -1), 0);
        is("that", x.order(8, -1), 0);
        is("no such DAY", x.order(1, 0), -9);
        is("no such DAY", x.order(8, MOST), -9);
    }

    /** "7 DAYS at most". */
    private static void orderOfSevenAtMost() {
        HamperByWeather x = hall("d000;d000;d000;d000;d000;d000;d000;f0639;");
        is("seven", x.order(8, -1), 7);
        is("seven", x.order(7, -1), 7);
        is("one of seven", x.order(1, -1), 1);
        for (int i = 0; i < 7; i++) {
            is("in order", x.order(3, i), i);
        }
        x.day(0);
        is("eight", x.order(1, -1), -3);
        is("eight", x.order(8, 7), -3);
    }

    /** "with the first k (1 .. 8) of them": more than there are DAYS. */
    private static void orderMoreThanDays() {
        HamperByWeather x = hall("t20;d001;d000;d000;f0032;f1021;");
        for (int k = 3; k <= 8; k++) {
            is("all", x.order(k, -1), 3);
            is("the order", x.order(k, 0) * 100 + x.order(k, 1) * 10 + x.order(k, 2), 120);
        }
        is("k 9", x.order(9, -1), -6);
        is("k 0", x.order(0, -1), -4);
    }

    /** Promise 26: "that (i -1), the i-th DAY (-9)". */
    private static void orderPlaces() {
        HamperByWeather x = hall("t20;d001;d001;d000;f0011;");
        is("that", x.order(1, -1), 1);
        is("the first", x.order(1, 0), 2);
        is("the last", x.order(1, 2), 1);
        int[] behind = {3, 4, 7, 8, 9, MOST};
        for (int i : behind) {
            is("no such DAY " + i, x.order(1, i), -9);
        }
        int[] below = {-2, -9, LEAST};
        for (int i : below) {
            is("below " + i, x.order(1, i), -4);
        }
    }

    /** "of several the first (by numbers ..)". */
    private static void orderOfSeveralTheFirst() {
        HamperByWeather x = hall("t20;d001;d001;d001;d001;d001;d001;d000;f0011;");
        int[] one = {6, 0, 1, 2, 3, 4, 5};
        int[] two = {0, 6, 1, 2, 3, 4, 5};
        for (int i = 0; i < 7; i++) {
            is("the last DAY first", x.order(1, i), one[i]);
            is("the last DAY second", x.order(2, i), two[i]);
            is("all in order", x.order(7, i), i);
        }
        is("asked for another", x.order(1, 0), 6);
        x.wants(0, 1, 0);
        for (int i = 0; i < 7; i++) {
            is("nothing to do", x.order(1, i), i);
        }
        is("nothing done", x.order(7, -1), 0);
        x = hall("t20;d001;d001;d001;f0019;");
        for (int k = 1; k <= 8; k++) {
            for (int i = 0; i < 3; i++) {
                is("none wants them", x.order(k, i), i);
            }
        }
        x = hall("d000;d000;d000;");
        for (int i = 0; i < 3; i++) {
            is("nothing left, asked at once", x.order(1, i), i);
        }
    }

    /** "PLAN: .. the most of LEFT that can be done": nothing. */
    private static void planOfNothing() {
        HamperByWeather x = new HamperByWeather();
        x.wants(0, 63, 9);
        is("no DAYS", x.plan(), 0);
        is("nothing left", hall("d000;d000;").plan(), 0);
        is("none wants it", hall("d000;f0629;").plan(), 0);
        is("wants none", hall("d000;f0009;").plan(), 0);
        is("none of four wants it", hall("d000;f0629;f1629;f2629;f3629;").plan(), 0);
        is("no LIKELIEST, four want all", hall("t10;t11;d003;f0639;f1639;f2639;f3639;").plan(), 0);
        is("no LIKELIEST", hall("t10;t11;d003;f0639;").plan(), 0);
        is("of no WEIGHT", hall("d000;f0639;" + NO_WEIGHTS).plan(), 0);
        is("all is as it was", x.fieldOf(0, 1), 9);
    }

    /** "given to any FIELD that WANTS its LIKELIEST (not just the least)". */
    private static void planNotJustTheLeast() {
        HamperByWeather x = hall("t20;d000;d001;f0031;f1011;");
        is("by the least", x.gotIn(0), 1);
        is("by any", x.plan(), 2);
        // A chain: 0 and 1 want WEATHERS 0 and 1, 1 and 2, 2 wants 2 alone.
        x = hall("t20;t10;d000;d001;d003;f0031;f1061;f2041;");
        is("by the least", x.gotIn(0), 3);
        x = hall("t20;t10;d003;d001;d000;f0061;f1031;f2041;");
        is("by the least", x.gotIn(0), 2);
        is("by any", x.plan(), 3);
        x.wants(2, 4, 0);
        is("none left there", x.plan(), 2);
    }

    /** "by all DAYS": eight, with more LEFT than DAYS and less. */
    private static void planOfEight() {
        HamperByWeather x = hall("d000;d000;d000;d000;d000;d000;d000;d000;f0639;f1639;f2639;f3639;");
        is("all eight", x.plan(), 8);
        x.wants(0, 63, 7);
        for (int f = 1; f < 4; f++) {
            x.wants(f, 62, 9);
        }
        is("seven", x.plan(), 7);
        x.wants(3, 1, 1);
        is("eight", x.plan(), 8);
    }

    /** "SPARE: DAYS .. without which GOT IN is as much": nothing is got in. */
    private static void spareOfNothing() {
        is("no DAYS", new HamperByWeather().spare(), 0);
        is("nothing left", hall("d000;d000;d000;d000;d000;d000;d000;d000;").spare(), 255);
        is("all needed", hall("d000;d000;f0632;").spare(), 0);
        is("no LIKELIEST", hall("t10;t11;d003;d000;f0639;").spare(), 1);
    }

    /** "(bits), each by itself". */
    private static void spareEachByItself() {
        is("each of two", hall("d000;d000;f0631;").spare(), 3);
        is("each of eight", hall("d000;d000;d000;d000;d000;d000;d000;d000;f0637;").spare(), 255);
        is("the first takes what the second needs", hall("t20;d000;d001;f0031;f1011;").spare(), 3);
        is("the first alone", hall("t20;d000;d001;f0021;").spare(), 1);
    }

    /** "WHAT KIND: a ROW tells of WEATHERS 0, 1, ..": of none. */
    private static void whatKindEmptyRow() {
        HamperByWeather x = hall("t03;t59;");
        is("all KINDS", x.whatKind(0, 0), 63);
        is("all FIGURES", x.whatKind(0, 1), 1023);
        is("all KINDS", x.whatKind(1, 0), 63);
        is("all FIGURES", x.whatKind(1, 1), 1023);
    }

    /** "(1, 0; 2 not told)". */
    private static void whatKindNotTold() {
        HamperByWeather x = hall("t10;t11;");
        for (int i = 0; i < 5; i++) {
            x.row(2);
            is("nothing told", x.whatKind(0, 0), 63);
            is("nothing told", x.whatKind(0, 1), 1023);
        }
        x.row(0);
        // WEATHER 5 and FIGURE 0: DISH and TRIFLE don't; a DISH of an even FIGURE.
        is("the last told", x.whatKind(0, 0), 2 + 16);
        is("the last told", x.whatKind(0, 1), 341);
        x.clear();
        x.row(1);
        // WEATHER 0 and FIGURE 1: THING and SKY.
        is("the first told", x.whatKind(1, 0), 1 + 32);
        is("the first told", x.whatKind(1, 1), 341);
    }

    /** Promise 29: "-3 more than 6 numbers, one above 2". */
    private static void whatKindSixNumbers() {
        HamperByWeather x = hall("t10;");
        int[] dish = {1, 0, 1, 0, 1, 0};
        for (int v : dish) {
            x.row(v);
        }
        is("six numbers", x.whatKind(0, 0), 2 + 16);
        is("six numbers", x.whatKind(0, 1), 341);
        x.row(2);
        is("seven numbers", x.whatKind(0, 0), -3);
        is("seven numbers", x.whatKind(0, 1), -3);
        is("seven stay", x.clear(), 7);
        x.row(2);
        is("2", x.whatKind(0, 0), 63);
        x.row(3);
        is("above 2", x.whatKind(0, 0), -3);
        is("above 2", x.whatKind(0, 1), -3);
        is("two stay", x.clear(), 2);
        is("what is no more in the ROW is not looked at", x.whatKind(0, 0), 63);
        x.row(0);
        is("what is no more in the ROW is not looked at", x.whatKind(0, 0), 1 + 4);
    }

    /** "KINDS (bits) by which it is so; FIGURES": none. */
    private static void whatKindNone() {
        HamperByWeather x = hall("t10;t50;");
        for (int i = 0; i < 6; i++) {
            x.row(0);
        }
        is("no KIND goes with none", x.whatKind(0, 0), 0);
        is("no FIGURE", x.whatKind(0, 1), 0);
        x.clear();
        x.row(1);
        x.row(0);
        is("no FIGURE of a SKY", x.whatKind(1, 1), 0);
        x.clear();
        int[] thing = {1, 1, 1, 0, 1, 1};
        for (int v : thing) {
            x.row(v);
        }
        is("no DISH", x.whatKind(0, 1), 0);
        HamperByWeather y = hall("t03;");
        for (int v : thing) {
            y.row(v);
        }
        is("FIGURES 3 and 9, modulo 6", y.whatKind(0, 1), 8 + 512);
        is("a THING", y.whatKind(0, 0), 1);
    }

    /** "LOOK'S WORTH .. (0 by 1, if that is not above 0 ..)". */
    private static void worthNotAboveNothing() {
        worth("just 0", hall("d000;"), 0, 0, 1);
        worth("just 0, with a THING", hall("t50;d001;w09;"), 0, 0, 1);
        worth("below 0", hall("t02;d001;w29;"), 0, 0, 1);
        // 1 by 5 less 2 by 7 is below 0, 1 by 3 less 2 by 7 is 1 by 21.
        HamperByWeather x = hall("t02;t20;t02;d001;d002;w22;");
        worth("below 0", x, 0, 0, 1);
        x = hall("t11;d001;w22;");
        worth("above 0", x, 0, 1, 21);
    }

    /** "(.. or there is no LIKELIEST)". */
    private static void worthWithoutLikeliest() {
        worth("none could be", hall("t10;t11;d003;"), 0, 0, 1);
        worth("of no WEIGHT", hall("t20;d001;w10;w20;w50;"), 0, 0, 1);
        worth("all of no WEIGHT", hall("d000;" + NO_WEIGHTS), 0, 0, 1);
    }

    /** "a fraction": of what is sure. */
    private static void worthAtMost() {
        worth("1 less 1 by 6", hall("t20;t10;d003;"), 0, 5, 6);
        worth("1 less 9 by 54", hall("t20;t10;d003;w09;w19;w29;w39;w49;w59;"), 0, 5, 6);
        worth("1 less 9 by 13", hall("t20;t10;d003;w09;w10;"), 0, 4, 13);
        worth("1 less 1", hall("t20;t10;d003;w00;w10;w30;w40;w50;"), 0, 0, 1);
    }

    /** "BET: .. (both 1, if alike)". */
    private static void betAlike() {
        is("alike, nothing", hall("d000;d000;").bet(0, 1), 1);
        is("alike, nothing", hall("d000;d000;").bet(1, 0), 1);
        is("alike by others", hall("t20;t14;d001;d002;").bet(0, 1), 1);
        is("1 more", hall("t20;t15;d001;d002;").bet(0, 1), 11);
        is("1 less", hall("t20;t13;d001;d002;").bet(0, 1), 0);
        is("1 more than nothing", hall("t11;d000;d001;").bet(0, 1), 11);
    }

    /** "both the same: nothing for either": so it is best to name the dearer one, both. */
    private static void betBothTheSame() {
        HamperByWeather x = hall("t50;t20;d001;d002;d003;");
        is("the one", x.bet(0, 1), 0);
        is("the other", x.bet(1, 0), 11);
        is("the one, the last", x.bet(2, 0), 0);
        is("the other, the last", x.bet(1, 2), 11);
        is("a DAY twice", x.bet(2, 2), -1);
    }

    /** "DAYS 0 .. n less 1 (n 0 ..)". */
    private static void wrongOfNoDays() {
        HamperByWeather x = new HamperByWeather();
        wrong("nothing left, no DAYS", x, 0, 2, 1, 1);
        x.day(0);
        wrong("nothing left", x, 0, 20, 1, 1);
        wrong("nothing left, one DAY", x, 1, 20, 1, 1);
        x.wants(3, 63, 1);
        wrong("one left", x, 0, 2, 0, 1);
        wrong("one left, one DAY", x, 1, 2, 1, 1);
    }

    /** "(n 0 .. 8 and no more than there are)", "odds 1 in t (2 .. 20)". */
    private static void wrongAtItsEnds() {
        HamperByWeather x = hall("d000;f0011;");
        wrong("1 in 2", x, 1, 2, 1, 2);
        wrong("1 in 20", x, 1, 20, 19, 20);
        is("1 in 1", x.wrong(1, 1, 0), 4000000000000000004L);
        is("1 in 21", x.wrong(1, 21, 0), 4000000000000000006L);
        is("two DAYS of one", x.wrong(2, 2, 0), 4000000000000000006L);
        x = hall("d000;d000;d000;d000;d000;d000;d000;d000;f0018;");
        wrong("all of eight", x, 8, 20, 16983563041L, 25600000000L);
        wrong("all of eight", x, 8, 2, 1, 256);
        wrong("too few", x, 7, 2, 0, 1);
        x.wants(0, 1, 9);
        wrong("never", x, 8, 20, 0, 1);
        x.wants(0, 1, 1);
        wrong("one of eight", x, 8, 20, 25599999999L, 25600000000L);
    }

    /** "it is WEATHER 1 instead of the LIKELIEST", which may be 1 itself. */
    private static void wrongIsTheLikeliest() {
        HamperByWeather x = hall("t20;d001;f0021;");
        wrong("1 anyhow", x, 1, 2, 1, 1);
        x.wants(0, 4, 1);
        wrong("never 2", x, 1, 2, 0, 1);
    }

    /** "it is WEATHER 1 instead": also where there is no LIKELIEST, and none could be. */
    private static void wrongWithoutLikeliest() {
        HamperByWeather x = hall("t10;t11;d003;f0631;");
        wrong("1 in 3", x, 1, 3, 1, 3);
        x.wants(0, 61, 1);
        wrong("1 is not wanted", x, 1, 3, 0, 1);
        x.wants(0, 61, 0);
        wrong("nothing left", x, 1, 3, 1, 1);
    }

    /** "behind these": DAYS from n on are not SPENT. */
    private static void wrongFirstDaysAlone() {
        HamperByWeather x = hall("d000;d000;d000;f0012;");
        wrong("one", x, 1, 4, 0, 1);
        wrong("two", x, 2, 4, 9, 16);
        wrong("three", x, 3, 4, 27, 32);
        x = hall("d000;d000;d000;f0011;f1021;");
        wrong("one of each by two", x, 2, 3, 4, 9);
        wrong("one of each by three", x, 3, 3, 2, 3);
        wrong("the second is wrong", hall("d000;d000;f0031;f1021;"), 2, 3, 1, 3);
    }

    /** "JUDGED: the LIKELIEST of DAYS 0, 1, .. (9 none)". */
    private static void judgedNine() {
        HamperByWeather x = hall("t10;t11;d003;d000;");
        x.row(9);
        x.row(0);
        is("all are so", x.judge(), -9);
        x.row(0);
        is("not 0", x.judge(), 0);
        x.row(9);
        x.row(9);
        is("not 9", x.judge(), 1);
        x.row(99);
        is("not 99", x.judge(), 0);
        x.row(9);
        x.row(6);
        is("not 6", x.judge(), 1);
        x.row(9);
        is("fewer than DAYS", x.judge(), -9);
    }

    /** "(no such DAY, too)". */
    private static void judgedNoSuchDay() {
        HamperByWeather x = new HamperByWeather();
        x.row(9);
        is("no DAY 0", x.judge(), 0);
        x.row(0);
        is("no DAY 0", x.judge(), 0);
        x = hall("d000;d000;d000;d000;d000;d000;d000;d000;");
        for (int i = 0; i < 8; i++) {
            x.row(0);
        }
        is("eight are so", x.judge(), -9);
        for (int i = 0; i < 12; i++) {
            x.row(i < 8 ? 0 : 9);
        }
        is("no DAY 8", x.judge(), 8);
        for (int i = 0; i < 12; i++) {
            x.row(i == 7 ? 1 : 0);
        }
        is("the last DAY ahead of it", x.judge(), 7);
    }

    /** Promise 41: "-9 (whichever it answers, the ROW has none then)". */
    private static void judgedNoneThen() {
        HamperByWeather x = hall("d000;");
        is("none told", x.judge(), -9);
        x.row(0);
        is("so", x.judge(), -9);
        is("none then", x.count(6), 0);
        x.row(1);
        x.row(1);
        is("not so", x.judge(), 0);
        is("none then", x.count(6), 0);
        is("none told", x.judge(), -9);
        is("the first again", x.row(0), 1);
    }

    /** "a DRAW below 2 to the power of THINGS": of no THINGS always 0. */
    private static void lotsWithoutThings() {
        HamperByWeather x = new HamperByWeather();
        int[] seeds = {0, 1, -1, MOST, LEAST};
        for (int z : seeds) {
            is("nothing left", x.lots(20, z, 0), 0);
            is("none had none", x.lots(20, z, 1), 0);
        }
        x.wants(0, 1, 9);
        x.wants(3, 1, 9);
        for (int z : seeds) {
            is("ten times", x.lots(1, z, 0), 10);
            is("none had none", x.lots(1, z, 1), 0);
        }
    }

    /** "n summers (1 .. 20), each from now". */
    private static void lotsEachFromNow() {
        HamperByWeather x = hall("f0639;f1631;");
        for (int n = 1; n <= 20; n++) {
            is(n + " summers", x.lots(n, n, 0), 10 * n);
        }
        x.wants(0, 63, 0);
        for (int n = 1; n <= 20; n++) {
            is(n + " summers, 1 left", x.lots(n, n, 0), n);
        }
        is("0 summers", x.lots(0, 0, 0), -4);
        is("21 summers", x.lots(21, 0, 0), -6);
        is("as it was", x.need(2) * 10 + x.count(2), 10);
    }

    /** "how many had none". */
    private static void lotsHadNone() {
        HamperByWeather x = hall(NO_WEIGHTS + "f0639;f1639;");
        is("all", x.lots(1, 5, 1), 10);
        is("all", x.lots(20, 5, 1), 200);
        is("no work", x.lots(20, 5, 0), 0);
        x.weighs(5, 1);
        is("not any more", x.lots(20, 5, 1), 0);
        is("work", x.lots(20, 5, 0), 200);
    }

    /**
     * "DRAWS: .. (z without its sign's bit, over 65536, cut) modulo n": from seed 1 these are 16838, 5758, 10113, 17515,
     * 31051, 5627, 23010, 7419, 16212, 4086, then 2749, 12767, 9084, 12060, 32225, 17543, 25089, 21183, 25137, 25566.
     */
    private static void lotsDraws() {
        int[] holding = {5, 8, 4, 5, 5, 6, 9, 6};
        for (int t = 0; t < 8; t++) {
            HamperByWeather x = new HamperByWeather();
            for (int i = 0; i < 8; i++) {
                x.thing(i == t ? 1 : 5, 1);
            }
            x.wants(0, 2, 9);
            is("draws that hold THING " + t, x.lots(1, 1, 0), holding[t]);
        }
        HamperByWeather x = hall("t11;f0029;");
        is("below 2", x.lots(1, 1, 0), 5);
        is("from summer to summer", x.lots(2, 1, 0), 12);
        x.wants(0, 2, 6);
        is("each from now", x.lots(2, 1, 0), 11);
        // Below 4: 2, 2, 1, 3, 3, 3, 2, 3, 0, 2.
        x = hall("t11;t10;f0639;f1631;");
        is("those of both have none", x.lots(1, 1, 1), 4);
        is("the others work", x.lots(1, 1, 0), 6);
    }

    /** "z becomes z times 1103515245 plus 12345 (an int, wrapping)", "z without its sign's bit". */
    private static void lotsWrap() {
        int[] seeds = {0, 1, -1, 2, -2, 12345, -12345, 1103515245, MOST, LEAST, MOST - 1, LEAST + 1, 0x40000000};
        for (int z : seeds) {
            HamperByWeather x = hall("t10;t11;t12;t13;t14;t15;t16;t17;f0023;f1012;f2031;");
            int[] due = {0, 0};
            long u = z & 0xffffffffL;
            for (int summer = 0; summer < 20; summer++) {
                int[] left = {3, 2, 1};
                for (int i = 0; i < 10; i++) {
                    u = (u * 1103515245L + 12345L) % 4294967296L;
                    int hamper = (int) (u % 2147483648L / 65536L % 256L);
                    boolean even = (hamper & 85) != 0;
                    boolean odd = (hamper & 170) != 0;
                    int own = odd ? 0 : 1;
                    if (even && odd) {
                        due[1]++;
                    } else if (left[own] > 0 || left[2] > 0) {
                        left[left[own] > 0 ? own : 2]--;
                        due[0]++;
                    }
                }
            }
            is("work from " + z, x.lots(20, z, 0), due[0]);
            is("none from " + z, x.lots(20, z, 1), due[1]);
        }
    }

    /** "LIGHTEST: .. -9; that", promise 33: "that (1; -9)". */
    private static void lightestNone() {
        HamperByWeather x = new HamperByWeather();
        is("no DAYS", x.lightest(0), -9);
        is("no DAYS", x.lightest(1), -9);
        x.day(0);
        is("one", x.lightest(0), 0);
        is("of nothing", x.lightest(1), 0);
    }

    /** "the DAY with least HEAVY, of several the least". */
    private static void lightestOfSeveralTheLeast() {
        HamperByWeather x = hall("t10;t50;t12;d004;d003;d001;d005;");
        is("of two", x.lightest(0), 1);
        is("that", x.lightest(1), 3);
        x = hall("t49;t09;d001;d001;d001;d001;d001;d001;d001;d002;");
        is("the last", x.lightest(0), 7);
        is("that", x.lightest(1), 10);
        is("all alike", hall("t49;d001;d001;").lightest(0), 0);
        is("that", hall("t49;d001;d001;").lightest(1), 24);
    }

    /** "SWAP: .. -9". */
    private static void swapNone() {
        is("no DAYS", new HamperByWeather().swap(), -9);
        is("no THINGS", hall("d000;d000;").swap(), -9);
        is("one DAY", hall("t10;t11;d003;").swap(), -9);
        is("nothing to give", hall("t10;t11;d003;d000;").swap(), -9);
        is("all have one", hall("t10;t10;d001;d002;").swap(), -9);
    }

    /** "a THING of one DAY and a THING of another one, neither in both". */
    private static void swapNeitherInBoth() {
        // What would help, the SKY for a DISH, is in both or gives what is in both.
        is("the other's in both", hall("t10;t11;t50;d007;d004;").swap(), -9);
        is("both in both", hall("t10;t11;d003;d003;").swap(), -9);
        is("the other's first in both", hall("t10;t11;t50;t13;d007;d012;").swap(), 103);
        is("the one's first in both", hall("t50;t10;t11;t13;d007;d009;").swap(), 113);
        is("free", hall("t10;t11;t50;d003;d004;").swap(), 102);
    }

    /** "by which more DAYS have a LIKELIEST than now". */
    private static void swapMoreThanNow() {
        is("one more, one less", hall("t10;t11;t12;t14;d003;d012;").swap(), -9);
        is("one less, one more", hall("t12;t14;t10;t11;d003;d012;").swap(), -9);
        is("one more", hall("t10;t11;t12;t13;d003;d004;").swap(), 112);
        is("two more", hall("t10;t11;t12;t13;d003;d012;").swap(), 103);
        is("still none", hall("t10;t11;t12;t15;d003;d012;" + NO_WEIGHTS).swap(), -9);
        // By its WEIGHT alone: a DISH 0 could be 0, 2, 4, all of no WEIGHT.
        is("of no WEIGHT", hall("t10;t50;d001;d002;w00;w20;w40;").swap(), -9);
        is("of no WEIGHT", hall("t10;t02;t50;d003;d004;w00;w20;w40;").swap(), -9);
        is("one gives what is of no WEIGHT to one without", hall("t10;t11;t20;t50;d001;d006;w00;w20;w40;").swap(), -9);
        is("of WEIGHT", hall("t10;t11;t50;d003;d004;w00;w20;").swap(), 102);
    }

    /** "the first (by 1000 the one DAY, 100 the other, 10 the THING of the one, the other's; ..)". */
    private static void swapFirst() {
        is("the last DAYS", hall("t10;t11;t50;d000;d000;d000;d000;d000;d000;d003;d004;").swap(), 6702);
        is("the last THINGS", hall("t50;t50;t50;t50;t50;t11;t10;t11;d192;d032;").swap(), 165);
        is("the one less than the other", hall("t10;t11;t50;d004;d003;").swap(), 120);
        is("the first of two DAYS", hall("t10;t11;t50;t50;d003;d000;d004;d008;").swap(), 202);
        is("the first of two THINGS", hall("t10;t11;t50;t50;d003;d012;").swap(), 102);
    }

    /** "OFTEN: .. -9; in how many", promise 35: "-9 .. (1; 0 none)". */
    private static void oftenNone() {
        HamperByWeather x = new HamperByWeather();
        is("no THINGS", x.often(0), -9);
        is("no THINGS", x.often(1), 0);
        x.day(0);
        is("no THINGS, a DAY", x.often(0) * 10 + x.often(1), -90);
        x = hall("t50;t50;d000;");
        is("none packed", x.often(1), 0);
        is("none packed, all in none", x.often(0), 0);
        x.packs(0, 1);
        is("one packed", x.often(0) * 10 + x.often(1), 11);
    }

    /** "the THING in most HAMPERS, of several the least". */
    private static void oftenOfSeveralTheLeast() {
        is("of two", hall("t50;t50;t50;d006;d006;").often(0), 1);
        is("the first", hall("t50;t50;d001;d003;").often(0), 0);
        is("of two the first", hall("t50;t50;d003;").often(0), 0);
        HamperByWeather x = hall("t50;t50;t50;t50;t50;t50;t50;t50;d128;d128;d128;d128;d128;d128;d128;d255;");
        is("the last", x.often(0), 7);
        is("in all", x.often(1), 8);
    }

    /** "SURE: DAYS (bits) with just one that COULD BE". */
    private static void sureOfEmpty() {
        is("no DAYS", new HamperByWeather().sure(0), 0);
        HamperByWeather x = hall("t20;t10;t40;t43;d000;d003;d001;d011;w20;");
        is("just one, of no WEIGHT", x.sure(0), 2);
        is("all eight", hall("t20;t10;d003;d003;d003;d003;d003;d003;d003;d003;").sure(0), 255);
    }

    /** "CAN NOT: DAYS (bits) with none". */
    private static void canNot() {
        is("no DAYS", new HamperByWeather().sure(1), 0);
        HamperByWeather x = hall("t20;t10;t40;t43;d000;d003;d001;d011;" + NO_WEIGHTS);
        is("none, whatever the WEIGHT", x.sure(1), 8);
        is("all eight", hall("t10;t11;d003;d003;d003;d003;d003;d003;d003;d003;").sure(1), 255);
    }

    /** "MEAN HEAVY of DAYS: a fraction (0 over 1 of none)". */
    private static void meanOfNone() {
        mean("no DAYS", new HamperByWeather(), 0, 1);
        mean("no DAYS, a THING", hall("t49;"), 0, 1);
        mean("nothing packed", hall("t49;d000;d000;d000;"), 0, 1);
        mean("what weighs nothing", hall("t59;d001;"), 0, 1);
    }

    /** "(Fractions are told in lowest terms; ..)". */
    private static void meanInLowestTerms() {
        mean("24 by 8", hall("t49;d001;d000;d000;d000;d000;d000;d000;d000;"), 3, 1);
        mean("10 by 8", hall("t09;d001;d000;d000;d000;d000;d000;d000;d000;"), 5, 4);
        mean("11 by 8", hall("t18;d001;d000;d000;d000;d000;d000;d000;d000;"), 11, 8);
        mean("192 by 1", hall("t49;t49;t49;t49;t49;t49;t49;t49;d255;"), 192, 1);
    }

    /** "NEED: the FIELD with most LEFT": nothing is left. */
    private static void needOfNothing() {
        HamperByWeather x = new HamperByWeather();
        is("field", x.need(0), 0);
        is("how much", x.need(1), 0);
        is("LEFT", x.need(2), 0);
    }

    /** "of several the least; how much", "LEFT: all LEFT together". */
    private static void needOfSeveralTheLeast() {
        HamperByWeather x = hall("f0639;f1639;f2639;f3639;");
        is("of four", x.need(0), 0);
        is("all", x.need(2), 36);
        x.wants(0, 63, 8);
        is("of three", x.need(0) * 10 + x.need(1), 19);
        x.wants(1, 63, 0);
        x.wants(2, 63, 0);
        is("the last", x.need(0) * 10 + x.need(1), 39);
        is("LEFT", x.need(2), 17);
        x.wants(3, 0, 1);
        is("the first", x.need(0) * 10 + x.need(1), 8);
    }

    /** "DROP: .. -9 no THINGS". */
    private static void dropNone() {
        is("no THINGS", new HamperByWeather().drop(), -9);
        is("no THINGS", hall("d000;").drop(), -9);
        is("no DAYS", hall("t10;t11;").drop(), 0);
        is("none helps", hall("t10;t11;d003;" + NO_WEIGHTS).drop(), 0);
    }

    /** "the THING (of several the least) that, left out of all HAMPERS, makes most DAYS have a LIKELIEST". */
    private static void dropOfSeveralTheLeast() {
        is("of two", hall("t50;t10;t11;d006;").drop(), 1);
        is("the last", hall("t10;t12;t14;t16;t18;t10;t50;t11;d131;d140;").drop(), 7);
        is("of two DAYS more", hall("t10;t11;t12;d003;d006;").drop(), 1);
        is("of none packed", hall("t50;t10;d002;").drop(), 0);
    }

    /** What is asked changes nothing, at its edges neither. */
    private static void asksChangeNothing() {
        HamperByWeather x = asked();
        HamperByWeather twin = asked();
        for (int d = 0; d < 7; d++) {
            x.looks(d);
            x.odds(d, 5, 0);
            x.worth(d, 1);
            x.bet(d, (d + 1) % 7);
            x.order(8, d);
        }
        for (int what = 0; what < 2; what++) {
            x.pack(2, what);
            x.codes(what);
            x.gotIn(what);
            x.whatKind(0, what);
            x.wrong(7, 20, what);
            x.lightest(what);
            x.often(what);
            x.sure(what);
            x.mean(what);
            x.need(what);
            x.lots(20, -1, what);
        }
        x.rope();
        x.wanted(0);
        x.apart();
        x.tell();
        x.smallest(1);
        x.eggAndRope();
        x.plan();
        x.spare();
        x.swap();
        x.drop();
        is("no refusals", Held.refusals(x), 0);
        List<Long> all = Held.allOf(x);
        List<Long> twins = Held.allOf(twin);
        for (int i = 0; i < all.size(); i++) {
            is("nothing changes, look " + i, all.get(i), twins.get(i));
        }
    }

    private static HamperByWeather asked() {
        HamperByWeather x = hall("t10;t11;t20;t38;t50;d003;d000;d004;d031;d001;d018;d012;f0035;f1012;");
        x.image();
        x.spends(1, 9);
        x.weighs(5, 4);
        x.row(1);
        x.row(2);
        x.feed('w');
        return x;
    }
}
