/** For each promise of ../shared/DOC.md its ordinary answers, its edges and what it refuses. */
public final class PromisesTest {
    private static final long L = 4000000000000000000L;
    private static final int MOST = Integer.MAX_VALUE;
    private static final int LEAST = Integer.MIN_VALUE;

    /** Things: 0 THING 3, 1 DISH 4, 2 COAT 0, 3 ROPE 8, 4 TRIFLE 2, 5 SKY 5. */
    private static final String SIX_KINDS = "t03;t14;t20;t38;t42;t55;";

    public static void main(String[] args) {
        newObject();
        feedAndHall();
        faults();
        hallTells();
        things();
        days();
        fields();
        thingAndDay();
        weighs();
        packs();
        wants();
        spends();
        back();
        backForgotten();
        oddsAndWorth();
        looksAndPack();
        ropeAndWanted();
        apartAndSure();
        tellCodesSmallestTwo();
        gotInAndSpare();
        orderOfDays();
        plan();
        whatKind();
        bet();
        wrongByChance();
        lightestAndMean();
        swap();
        oftenAndDrop();
        need();
        rowJudgeClear();
        lots();
        imageAndRestore();
        counts();
        refusalsInOrder();
        Due.close();
    }

    private static void is(String call, long got, long want) {
        Due.is(call, got, want);
    }

    private static HamperByWeather hall(String text) {
        return Due.hall(text);
    }

    private static int tell(HamperByWeather x, String text) {
        Due.feed(x, text);
        return x.hall();
    }

    private static void newObject() {
        HamperByWeather x = new HamperByWeather();
        for (int w = 0; w < 6; w++) {
            is("1 weight", x.weight(w), 1);
        }
        for (int f = 0; f < 4; f++) {
            is("1 wants", x.fieldOf(f, 0), 63);
            is("1 left", x.fieldOf(f, 1), 0);
        }
        int[] none = {0, 1, 2, 4, 5, 6, 7, 11, 12, 13, 14, 15, 16};
        for (int what : none) {
            is("1 count " + what, x.count(what), 0);
        }
        is("1 count 3", x.count(3), 6);
        is("1 no thing", x.thingOf(0, 0), -1);
        is("1 no day", x.dayOf(0, 0), -1);
    }

    private static void feedAndHall() {
        HamperByWeather x = new HamperByWeather();
        is("2 feed", x.feed(-1), -4);
        is("2 feed", x.feed(LEAST), -4);
        is("2 feed", x.feed(256), -6);
        is("2 feed", x.feed(MOST), -6);
        is("2 feed", x.feed(0), 1);
        is("2 feed", x.feed(255), 2);
        for (int i = 3; i <= 96; i++) {
            is("2 feed", x.feed(';'), i);
        }
        is("2 full", x.feed('t'), -6);
        is("2 full", x.feed(-2), -4);
        is("2 letters", x.count(5), 96);
        is("3 hall", x.hall(), -1000);
        is("3 letters gone", x.count(5), 0);
        is("2 again", x.feed('t'), 1);
        is("3 hall", x.hall(), -1001);
        is("3 empty", x.hall(), -1000);
        is("3 nothing counted", x.count(13), 0);
        is("3 counted of feed", x.count(14), 3);
        is("3 counted of feed", x.count(16), 3);
        StringBuilder full = new StringBuilder();
        for (int i = 0; i < 24; i++) {
            full.append("w11;");
        }
        is("3 full of statements", tell(x, full.toString()), 24);
        is("3 full, one lacks", tell(x, full.substring(4) + "w111"), -1095);
    }

    private static void faults() {
        String[] texts = {"x", "tt", "t0;", "t00", "t00;x", "t00;t0", "d00;", "d0000", "f0633;f06;", "s;", "s0",
            "p0;", "w0a;", "w00,", ";", "T00;", "t00;;", "t00; t00;", "f00000;", "w0/;", "w0:;"};
        int[] places = {0, 1, 2, 3, 4, 6, 3, 4, 9, 1, 2, 2, 2, 3, 0, 0, 4, 4, 5, 2, 2};
        for (int i = 0; i < texts.length; i++) {
            HamperByWeather x = new HamperByWeather();
            is("3 kind 1 of " + texts[i], tell(x, texts[i]), -1000 - places[i]);
            is("3 nothing came", x.count(0), 0);
        }
        String[] wrongs = {"t60;", "d001;", "t00;d002;", "w60;", "w99;", "f4000;", "f0640;", "f0990;", "s0;", "d000;s1;",
            "p00;", "d000;p00;", "t00;p00;", "t00;d000;p01;", "t00;d000;p10;", "d256;", "d999;", "t00;t70;t80;",
            "d000;d000;d000;d000;d000;d000;d000;d000;d000;", "t00;t00;t00;t00;t00;t00;t00;t00;t00;"};
        int[] starts = {0, 0, 4, 0, 0, 0, 0, 0, 0, 5, 0, 5, 4, 9, 9, 0, 0, 4, 40, 32};
        for (int i = 0; i < wrongs.length; i++) {
            HamperByWeather x = new HamperByWeather();
            is("3 kind 2 of " + wrongs[i], tell(x, wrongs[i]), -2000 - starts[i]);
            is("3 nothing came", x.count(0) + x.count(1), 0);
            is("3 nothing counted", x.count(11) + x.count(12) + x.count(16), 0);
        }
        is("3 kind 1 goes ahead", tell(new HamperByWeather(), "t60;t0"), -1006);
        HamperByWeather x = new HamperByWeather();
        is("3 all comes or nothing", tell(x, "w05;f0639;t00;d001;s0;t60;"), -2022);
        is("3 weight as it was", x.weight(0), 1);
        is("3 left as it was", x.fieldOf(0, 1), 0);
        is("3 done as it was", x.count(2), 0);
        int[] letters = {'t', 176, '0'};
        for (int letter : letters) {
            x.feed(letter);
        }
        is("3 no digit", x.hall(), -1001);
    }

    private static void hallTells() {
        HamperByWeather x = new HamperByWeather();
        is("3 hall", tell(x, "t03;t20;d003;w59;f1362;s0;p00;p00;p01;f3632;s0;"), 11);
        is("3 things", x.count(0), 2);
        is("3 kind", x.thingOf(1, 0), 2);
        is("3 figure", x.thingOf(0, 1), 3);
        is("3 hamper", x.dayOf(0, 0), 1);
        is("3 weight", x.weight(5), 9);
        is("3 wants", x.fieldOf(1, 0), 36);
        is("3 left, both spent with 5", x.fieldOf(1, 1), 0);
        is("3 left", x.fieldOf(3, 1), 2);
        is("3 done", x.count(2), 2);
        is("3 more things", tell(x, "t10;d004;"), 2);
        is("3 things", x.count(0), 3);
        is("3 days", x.count(1), 2);
        x = hall("f0639;d000;w00;w10;w20;w30;w40;w50;s0;");
        is("3 no likeliest, nothing", x.fieldOf(0, 1), 9);
        is("3 nothing done", x.count(2), 0);
    }

    private static void things() {
        HamperByWeather x = hall(SIX_KINDS);
        int[][] due = {{0, 3, 4, 1, 55}, {1, 4, 7, 4, 21}, {2, 0, 4, 4, 38}, {3, 8, 2, 2, 38}, {4, 2, 10, 7, 21},
            {5, 5, 0, 9, 63}};
        for (int t = 0; t < due.length; t++) {
            for (int what = 0; what < 5; what++) {
                is("4 thingOf " + t + " " + what, x.thingOf(t, what), due[t][what]);
            }
        }
        is("4 none", x.thingOf(6, 0), -1);
        is("4 none", x.thingOf(-1, 9), -1);
        is("4 none", x.thingOf(LEAST, 0), -1);
        is("4 none", x.thingOf(MOST, 0), -1);
        is("4 other", x.thingOf(0, 5), -2);
        is("4 other", x.thingOf(0, -1), -2);
        x = hall("t09;t19;t29;t39;t49;t30;t31;t43;");
        int[][] others = {{0, 9, 10, 1, 55}, {1, 9, 12, 9, 42}, {2, 9, 4, 4, 38}, {3, 9, 2, 1, 46}, {4, 9, 24, 14, 40},
            {3, 0, 2, 4, 39}, {3, 1, 2, 4, 38}, {4, 3, 12, 8, 40}};
        for (int t = 0; t < others.length; t++) {
            for (int what = 0; what < 5; what++) {
                is("4 thingOf " + t + " " + what, x.thingOf(t, what), others[t][what]);
            }
        }
        is("4 none above the eighth", x.thingOf(8, 0), -1);
        for (int figure = 0; figure <= 9; figure++) {
            HamperByWeather y = new HamperByWeather();
            y.thing(2, figure);
            y.thing(3, figure);
            y.thing(4, figure);
            is("4 heavy of a coat, whatever its figure", y.thingOf(0, 2), 4);
            is("4 heavy of a rope, half of that", y.thingOf(1, 2), 2);
            is("4 heavy of a trifle, twice a dish's", y.thingOf(2, 2), 2 * figure + 6);
        }
    }

    private static void days() {
        HamperByWeather x = hall(SIX_KINDS + "d000;d063;d006;d005;w29;w17;w57;");
        int[][] due = {{0, 63, 2, 0, 0}, {63, 4, 2, 27, 27}, {6, 4, 2, 11, 8}, {5, 38, 2, 8, 5}};
        for (int d = 0; d < due.length; d++) {
            for (int what = 0; what < 5; what++) {
                is("5 dayOf " + d + " " + what, x.dayOf(d, what), due[d][what]);
            }
        }
        x.weighs(2, 0);
        is("5 least of several", x.dayOf(3, 2), 1);
        is("5 no weight", x.dayOf(2, 2), -9);
        x.weighs(1, 0);
        is("5 only one of weight", x.dayOf(3, 2), 5);
        is("5 none", x.dayOf(4, 0), -1);
        is("5 none", x.dayOf(-1, 7), -1);
        is("5 other", x.dayOf(0, 5), -2);
        is("5 other", x.dayOf(0, -1), -2);
        HamperByWeather y = hall("t10;t11;d003;");
        is("5 could be none", y.dayOf(0, 1), 0);
        is("5 could be none", y.dayOf(0, 2), -9);
    }

    private static void fields() {
        HamperByWeather x = hall("f2157;");
        is("6 wants", x.fieldOf(2, 0), 15);
        is("6 left", x.fieldOf(2, 1), 7);
        is("6 none", x.fieldOf(4, 0), -1);
        is("6 none", x.fieldOf(-1, 5), -1);
        is("6 other", x.fieldOf(3, 2), -2);
        is("6 other", x.fieldOf(3, -1), -2);
        is("7 weight", x.weight(5), 1);
        is("7 none", x.weight(6), -1);
        is("7 none", x.weight(-1), -1);
        is("7 none", x.weight(MOST), -1);
    }

    private static void thingAndDay() {
        HamperByWeather x = new HamperByWeather();
        is("8 kind", x.thing(6, -1), -2);
        is("8 kind", x.thing(-1, 10), -2);
        is("8 below", x.thing(0, -1), -4);
        is("8 above", x.thing(0, 10), -6);
        for (int i = 0; i < 8; i++) {
            is("8 number", x.thing(5, 9 - i), i);
        }
        is("8 no room", x.thing(0, 0), -6);
        is("8 below first", x.thing(0, -1), -4);
        is("8 kind first", x.thing(9, 0), -2);
        is("9 below", x.day(-1), -4);
        is("9 below", x.day(LEAST), -4);
        is("9 no such things", x.day(256), -6);
        for (int i = 0; i < 8; i++) {
            is("9 number", x.day(255 - i), i);
            is("9 hamper", x.dayOf(i, 0), 255 - i);
        }
        is("9 no room", x.day(0), -6);
        is("9 below first", x.day(-5), -4);
        x = hall("t00;t00;");
        is("9 no such things", x.day(4), -6);
        is("9 well", x.day(3), 0);
    }

    private static void weighs() {
        HamperByWeather x = new HamperByWeather();
        is("10 what it was", x.weighs(3, 9), 1);
        is("10 what it was", x.weighs(3, 0), 9);
        is("10 becomes", x.weight(3), 0);
        is("10 weather", x.weighs(6, -1), -1);
        is("10 weather", x.weighs(-1, 10), -1);
        is("10 below", x.weighs(0, -1), -4);
        is("10 above", x.weighs(0, 10), -6);
        is("10 as it was", x.weight(0), 1);
    }

    private static void packs() {
        HamperByWeather x = hall("t00;t10;d002;d000;");
        is("11 packed", x.packs(0, 0), 1);
        is("11 hamper", x.dayOf(0, 0), 3);
        is("11 not any more", x.packs(0, 1), 0);
        is("11 hamper", x.dayOf(0, 0), 1);
        is("11 other hamper", x.dayOf(1, 0), 0);
        is("11 day", x.packs(2, 0), -1);
        is("11 day", x.packs(-1, 0), -1);
        is("11 thing", x.packs(0, 2), -1);
        is("11 thing", x.packs(0, -1), -1);
        is("11 counts", x.count(7), 2);
    }

    private static void wants() {
        HamperByWeather x = new HamperByWeather();
        is("12 what was", x.wants(0, 5, 9), 0);
        is("12 what was", x.wants(0, 63, 0), 9);
        is("12 none wanted", x.wants(3, 0, 2), 0);
        is("12 wants", x.fieldOf(3, 0), 0);
        is("12 left", x.fieldOf(3, 1), 2);
        is("12 field", x.wants(4, -1, -1), -1);
        is("12 field", x.wants(-1, 64, 10), -1);
        is("12 below", x.wants(0, -1, 10), -4);
        is("12 below", x.wants(0, 64, -1), -4);
        is("12 above", x.wants(0, 64, 0), -6);
        is("12 above", x.wants(0, 0, 10), -6);
        is("12 as it was", x.fieldOf(0, 0), 63);
    }

    private static void spends() {
        HamperByWeather x = hall("t20;d001;d000;f0012;f1062;f2631;");
        is("13 field 1 wants 1 and 2", x.spends(0, 9), 1);
        is("13 left", x.fieldOf(1, 1), 1);
        is("13 done", x.count(2), 1);
        is("13 a weather told", x.spends(0, 0), 0);
        is("13 likeliest 0", x.spends(1, 9), 0);
        is("13 then the next", x.spends(1, 9), 2);
        is("13 nothing", x.spends(1, 9), -9);
        is("13 done", x.count(2), 4);
        is("13 another", x.spends(1, 2), 1);
        is("13 day", x.spends(2, 0), -1);
        is("13 day", x.spends(-1, 0), -1);
        is("13 weather", x.spends(0, 6), -1);
        is("13 weather", x.spends(0, -9), -1);
        is("13 weather", x.spends(0, 10), -1);
        is("13 counts", x.count(7), 6);
        x = hall("d000;w00;w10;w20;w30;w40;w50;f0639;");
        is("13 no likeliest", x.spends(0, 9), -9);
        is("13 told all the same", x.spends(0, 4), 0);
    }

    private static void back() {
        HamperByWeather x = hall("t00;t10;d000;f0633;");
        is("14 none", x.back(), -3);
        x.weighs(2, 7);
        x.packs(0, 1);
        x.wants(0, 3, 5);
        x.spends(0, 1);
        x.spends(0, 5);
        x.weighs(2, 7);
        is("14 count", x.count(7), 6);
        is("14 as it was", x.back(), 5);
        is("14 weight stays", x.weight(2), 7);
        is("14 nothing", x.back(), 4);
        is("14 left", x.fieldOf(0, 1), 4);
        is("14 spent", x.back(), 3);
        is("14 left", x.fieldOf(0, 1), 5);
        is("14 done", x.count(2), 0);
        is("14 wants", x.back(), 2);
        is("14 wants", x.fieldOf(0, 0), 63);
        is("14 left", x.fieldOf(0, 1), 3);
        is("14 packed", x.back(), 1);
        is("14 hamper", x.dayOf(0, 0), 0);
        is("14 weight", x.back(), 0);
        is("14 weight", x.weight(2), 1);
        is("14 none", x.back(), -3);
        for (int i = 0; i < 10; i++) {
            x.weighs(0, i);
        }
        is("14 eight", x.count(7), 8);
        for (int i = 7; i >= 0; i--) {
            is("14 back", x.back(), i);
        }
        is("14 older ones no more", x.weight(0), 1);
        is("14 none", x.back(), -3);
    }

    private static void backForgotten() {
        HamperByWeather x = hall("d000;");
        x.weighs(0, 2);
        x.thing(9, 0);
        x.day(1);
        x.restore();
        x.weighs(0, 10);
        x.packs(0, 0);
        tell(x, "t");
        tell(x, "t60;");
        x.image();
        x.row(1);
        is("14 refused or faulty leave it", x.count(7), 1);
        x.thing(0, 0);
        is("14 thing", x.count(7), 0);
        x.weighs(0, 3);
        x.day(0);
        is("14 day", x.count(7), 0);
        x.weighs(0, 4);
        is("14 hall", tell(x, "w11;"), 1);
        is("14 hall", x.back(), -3);
        x.weighs(0, 5);
        x.restore();
        is("14 restore", x.back(), -3);
        is("14 restored", x.weight(0), 2);
    }

    private static void oddsAndWorth() {
        HamperByWeather x = hall("t20;d001;d000;w14;w22;w50;w06;");
        long[][] odds = {{0, 0, 0, 1}, {0, 1, 2, 3}, {0, 2, 1, 3}, {0, 5, 0, 1}, {1, 0, 3, 7}, {1, 3, 1, 14}};
        for (long[] row : odds) {
            is("15 above", x.odds((int) row[0], (int) row[1], 0), row[2]);
            is("15 below", x.odds((int) row[0], (int) row[1], 1), row[3]);
        }
        is("15 day", x.odds(2, 0, 9), L + 1);
        is("15 day", x.odds(-1, 0, 0), L + 1);
        is("15 weather", x.odds(0, 6, 0), L + 1);
        is("15 weather", x.odds(0, -1, 0), L + 1);
        is("15 part", x.odds(0, 0, 2), L + 2);
        is("15 part", x.odds(0, 0, -1), L + 2);
        is("30 4/6 less 6/14", x.worth(0, 0), 5);
        is("30 below", x.worth(0, 1), 21);
        is("30 not above 0", x.worth(1, 0), 0);
        is("30 below", x.worth(1, 1), 1);
        is("30 day", x.worth(2, 2), L + 1);
        is("30 part", x.worth(0, 2), L + 2);
        x.weighs(1, 0);
        x.weighs(2, 0);
        is("15 all weigh 0", x.odds(0, 1, 0), 0);
        is("15 all weigh 0", x.odds(0, 1, 1), 1);
        is("30 no likeliest", x.worth(0, 0), 0);
        is("30 no likeliest", x.worth(0, 1), 1);
        x.weighs(5, 1);
        is("30 sure, 1 less 6/9", x.worth(0, 1), 9 / 3);
        x = hall("t02;d001;w29;w03;w13;");
        is("30 below 0", x.worth(0, 0), 0);
        is("30 below 0", x.worth(0, 1), 1);
    }

    private static void looksAndPack() {
        HamperByWeather x = hall("t20;t10;t38;t12;t55;d015;d000;d016;d031;d010;");
        is("16 looks", x.looks(0), 3);
        is("16 none", x.looks(1), 0);
        is("16 tells nothing", x.looks(2), 0);
        is("16 all", x.looks(3), 3);
        is("16 one of two alike", x.looks(4), 2);
        is("16 day", x.looks(5), -1);
        is("16 day", x.looks(-1), -1);
        is("17 lightest", x.pack(2, 0), 6);
        is("17 dearest, less what costs 0", x.pack(2, 1), 29);
        is("17 none", x.pack(0, 0), -9);
        is("17 none", x.pack(0, 1), -9);
        is("17 weather", x.pack(6, 5), -1);
        is("17 weather", x.pack(-1, 0), -1);
        is("17 other", x.pack(2, 2), -2);
        is("17 other", x.pack(2, -1), -2);
        // COAT 4, DISH 0 3, ROPE 2 heavy; ROPE 5 goes with 1, 2, 5 too.
        x = hall("t20;t10;t35;t10;");
        is("17 of several the least", x.pack(2, 0), 6);
        is("17 most dear", x.pack(2, 1), 7);
        x = hall("t20;t10;");
        is("17 all there are", x.pack(2, 0), 3);
        is("17 all there are", x.pack(2, 1), 3);
        // A COAT of FIGURE 9 is as heavy as one of 0.
        x = hall("t29;t20;t10;");
        is("17 coats alike, the least", x.pack(2, 0), 5);
        is("17 dearest", x.pack(2, 1), 7);
        x = hall("t55;t20;t10;t10;t50;");
        is("17 heavy 0 adds nothing", x.pack(2, 0), 6);
        is("17 dearest takes both", x.pack(2, 1), 23);
    }

    private static void ropeAndWanted() {
        HamperByWeather x = hall("t20;t30;d001;d000;");
        is("18 a coat is no rope", x.rope(), -9);
        x.day(2);
        x.day(3);
        is("18 first", x.rope(), 2);
        x.packs(0, 1);
        is("18 first", x.rope(), 0);
        // COAT: 1, 2, 5; ROPE 0: 0, 1, 2, 5.
        x = hall("t20;t30;t10;t11;d001;d002;d000;d012;");
        x.wants(0, 1, 0);
        x.wants(1, 8, 0);
        x.wants(2, 0, 0);
        is("19 wants 0", x.wanted(0), 9);
        is("19 wants 3", x.wanted(1), 11);
        is("19 wants none", x.wanted(2), 15);
        is("19 wants all", x.wanted(3), 8);
        is("19 field", x.wanted(4), -1);
        is("19 field", x.wanted(-1), -1);
    }

    private static void apartAndSure() {
        HamperByWeather x = hall("t10;t11;t20;d001;d002;d004;d003;d000;d005;d006;");
        // could be: 21, 42, 38, 0, 63, 4, 34.
        is("20 apart", x.apart(), 10);
        is("36 sure", x.sure(0), 32);
        is("36 can not", x.sure(1), 8);
        is("36 other", x.sure(2), -2);
        is("36 other", x.sure(-1), -2);
        x = hall("t10;t11;d003;d003;");
        is("20 both none", x.apart(), 1);
        is("36 can not", x.sure(1), 3);
    }

    private static void tellCodesSmallestTwo() {
        HamperByWeather x = hall("t55;t20;t10;t11;");
        is("21 tells: three and three", x.tell(), 1);
        x.weighs(1, 3);
        // COAT 5 of 8: 2 apart; DISH 0 (0, 2, 4) 3 of 8; DISH 1 the rest.
        is("21 of several the least", x.tell(), 1);
        x.weighs(1, 1);
        x.weighs(0, 3);
        x.weighs(3, 3);
        is("21 halves", x.tell(), 2);
        // sets: 63, 38, 21, 42, 4, 34, 0.
        is("22 codes", x.codes(0), 7);
        is("22 sunny", x.codes(1), 57);
        is("22 other", x.codes(2), -2);
        is("22 other", x.codes(-1), -2);
        is("23 none needed", x.smallest(63), 0);
        is("23 one", x.smallest(38), 2);
        is("23 two", x.smallest(34), 10);
        is("23 none", x.smallest(1), -9);
        is("23 below", x.smallest(0), -4);
        is("23 below", x.smallest(-1), -4);
        is("23 above", x.smallest(64), -6);
        is("24 coat and dish", x.eggAndRope(), 12);
        x = hall("t10;t11;");
        is("24 none alike", x.eggAndRope(), -9);
        x = hall("t50;t50;t10;t10;t12;");
        is("24 first of several", x.eggAndRope(), 2);
        is("23 least of several", x.smallest(21), 4);
        is("21 least of several", x.tell(), 2);
        x = hall("t50;");
        is("24 one alone", x.eggAndRope(), -9);
        is("21 one", x.tell(), 0);
    }

    private static void gotInAndSpare() {
        // days: 0 likes 1, 1 likes 0, 2 likes 1.
        HamperByWeather x = hall("t20;d001;d000;d001;f0021;f1011;f2001;");
        is("25 how much", x.gotIn(0), 2);
        is("25 fields", x.gotIn(1), 8 + 3);
        is("25 other", x.gotIn(2), -2);
        is("25 other", x.gotIn(-1), -2);
        is("25 nothing changes", x.count(2), 0);
        is("25 nothing changes", x.fieldOf(0, 1), 1);
        is("28 spare", x.spare(), 5);
        x.wants(0, 2, 2);
        is("25 how much", x.gotIn(0), 3);
        is("28 spare", x.spare(), 0);
        x.wants(0, 2, 0);
        x.wants(1, 2, 0);
        is("28 all", x.spare(), 7);
        is("25 none", x.gotIn(0), 0);
        x.weighs(0, 0);
        x.wants(0, 63, 9);
        is("25 likeliest other", x.gotIn(0), 3);
        for (int w = 0; w < 6; w++) {
            x.weighs(w, 0);
        }
        is("25 no likeliest", x.gotIn(0), 0);
    }

    private static void orderOfDays() {
        // Field 0 wants 0 and 1, field 1 wants 1 alone: day 1 (weather 1) is of use after day 0 and 2 took field 0.
        HamperByWeather x = hall("t20;d001;d000;d000;f0032;f1021;");
        is("26 as they come", x.gotIn(0), 2);
        is("26 most by two", x.order(2, -1), 2);
        is("26 most by all", x.order(3, -1), 3);
        int[] all = {1, 2, 0, -9};
        int[] two = {0, 1, 2, -9};
        for (int i = 0; i < 4; i++) {
            is("26 by all", x.order(8, i), all[i]);
            is("26 by two", x.order(2, i), two[i]);
            is("26 by one", x.order(1, i), two[i]);
        }
        is("26 far", x.order(3, MOST), -9);
        is("26 below", x.order(0, 0), -4);
        is("26 below", x.order(1, -2), -4);
        is("26 below first", x.order(9, -2), -4);
        is("26 above", x.order(9, 0), -6);
        is("26 nothing changes", x.fieldOf(0, 1), 2);
        x = hall("d000;d000;d000;d000;d000;d000;d000;f0633;");
        is("26 seven", x.order(8, -1), 3);
        is("26 seven", x.order(8, 6), 6);
        x.day(0);
        is("26 eight", x.order(8, -1), -3);
        is("26 above first", x.order(9, -1), -6);
        x = hall("t20;d001;d001;d000;f0011;");
        is("26 one brings it", x.order(1, -1), 1);
        is("26 then the rest", x.order(1, 0) * 100 + x.order(1, 1) * 10 + x.order(1, 2), 201);
    }

    private static void plan() {
        HamperByWeather x = hall("t20;d001;d000;d000;f0032;f1021;");
        is("27 plan", x.plan(), 3);
        is("25 not so good", x.gotIn(0), 2);
        x.wants(1, 2, 0);
        is("27 nothing left there", x.plan(), 2);
        x.wants(0, 1, 9);
        is("27 only two want it", x.plan(), 2);
        x.wants(1, 63, 9);
        is("27 all days", x.plan(), 3);
        x.weighs(1, 0);
        x.weighs(2, 0);
        x.weighs(5, 0);
        is("27 one has none", x.plan(), 2);
    }

    private static void whatKind() {
        HamperByWeather x = hall("t14;t20;");
        is("29 empty row", x.whatKind(0, 0), 63);
        is("29 empty row", x.whatKind(0, 1), 1023);
        x.row(1);
        x.row(2);
        x.row(1);
        // With figure 4: THING (not 4), DISH, TRIFLE, SKY.
        is("29 kinds", x.whatKind(0, 0), 1 + 2 + 16 + 32);
        // A DISH of an even figure.
        is("29 figures", x.whatKind(0, 1), 1 + 4 + 16 + 64 + 256);
        is("29 no figure of a coat", x.whatKind(1, 1), 0);
        is("29 figure 0", x.whatKind(1, 0), 2 + 8 + 16 + 32);
        x.row(0);
        x.row(0);
        x.row(1);
        is("29 six told, figure 0", x.whatKind(1, 0), 8);
        is("29 the row stays", x.count(6), 6);
        is("29 thing", x.whatKind(2, 9), -1);
        is("29 thing", x.whatKind(-1, 0), -1);
        is("29 other", x.whatKind(0, 2), -2);
        is("29 other", x.whatKind(0, -1), -2);
        x.row(1);
        is("29 seven", x.whatKind(0, 0), -3);
        is("29 other first", x.whatKind(0, 2), -2);
        x.clear();
        x.row(3);
        is("29 above 2", x.whatKind(0, 1), -3);
    }

    private static void bet() {
        HamperByWeather x = hall("t50;t20;d001;d002;d002;");
        is("31 the one is dearer", x.bet(0, 1), 0);
        is("31 the other is dearer", x.bet(1, 0), 11);
        is("31 alike", x.bet(1, 2), 1);
        is("31 twice", x.bet(1, 1), -1);
        is("31 none", x.bet(3, 0), -1);
        is("31 none", x.bet(0, 3), -1);
        is("31 none", x.bet(-1, 0), -1);
        is("31 none", x.bet(0, -1), -1);
    }

    private static void wrongByChance() {
        // Day 0 could be 0, 2, 4: likeliest 0; field 0 wants 0 alone.
        HamperByWeather x = hall("t10;d001;d001;f0011;");
        is("32 none", x.wrong(0, 2, 0), 0);
        is("32 none", x.wrong(0, 2, 1), 1);
        is("32 one day", x.wrong(1, 4, 0), 3);
        is("32 one day", x.wrong(1, 4, 1), 4);
        is("32 two days", x.wrong(2, 4, 0), 15);
        is("32 two days", x.wrong(2, 4, 1), 16);
        x.wants(0, 1, 2);
        is("32 both needed", x.wrong(2, 10, 0), 81);
        is("32 both needed", x.wrong(2, 10, 1), 100);
        x.wants(0, 2, 1);
        is("32 wrong is right", x.wrong(2, 2, 0), 3);
        is("32 wrong is right", x.wrong(2, 2, 1), 4);
        x.wants(0, 3, 1);
        is("32 sure", x.wrong(2, 20, 0), 1);
        is("32 sure", x.wrong(2, 20, 1), 1);
        is("32 below", x.wrong(-1, 21, 0), L + 4);
        is("32 below", x.wrong(3, 1, 0), L + 4);
        is("32 above days", x.wrong(3, 2, 2), L + 6);
        is("32 above", x.wrong(9, 2, 0), L + 6);
        is("32 above", x.wrong(1, 21, 0), L + 6);
        is("32 part", x.wrong(1, 20, 2), L + 2);
        is("32 part", x.wrong(1, 20, -1), L + 2);
        x = hall("t10;d001;d001;d001;d001;d001;d001;d001;d001;f0018;");
        is("32 eight days", x.wrong(8, 20, 0), 16983563041L);
        is("32 eight days", x.wrong(8, 20, 1), 25600000000L);
        for (int w = 0; w < 6; w++) {
            x.weighs(w, 0);
        }
        x.wants(0, 2, 8);
        is("32 no likeliest", x.wrong(8, 20, 0), 1);
        is("32 no likeliest", x.wrong(8, 20, 1), 25600000000L);
    }

    private static void lightestAndMean() {
        HamperByWeather x = hall("t29;t10;d003;d001;d002;d002;");
        is("33 day", x.lightest(0), 2);
        is("33 that", x.lightest(1), 3);
        is("33 other", x.lightest(2), -2);
        is("33 other", x.lightest(-1), -2);
        is("37 17 by 4", x.mean(0), 17);
        is("37 17 by 4", x.mean(1), 4);
        x.packs(1, 1);
        is("37 20 by 4", x.mean(0), 5);
        is("37 20 by 4", x.mean(1), 1);
        x.packs(2, 1);
        x.packs(0, 0);
        is("37 13 by 4", x.mean(0), 13);
        x.packs(3, 1);
        is("37 10 by 4", x.mean(0), 5);
        is("37 10 by 4", x.mean(1), 2);
        is("33 nothing is least, the first of two", x.lightest(0), 2);
        is("33 that", x.lightest(1), 0);
        x.packs(2, 1);
        x.packs(3, 1);
        is("33 least of several", x.lightest(0), 0);
        is("37 part", x.mean(2), L + 2);
        is("37 part", x.mean(-1), L + 2);
        x = hall("d000;d000;");
        is("37 nothing packed", x.mean(0), 0);
        is("37 nothing packed", x.mean(1), 1);
        is("33 nothing packed", x.lightest(1), 0);
        x = new HamperByWeather();
        is("33 no day", x.lightest(0), -9);
        is("33 no day", x.lightest(1), -9);
        is("37 no day", x.mean(1), 1);
    }

    private static void swap() {
        // Days 0 and 1 hold an even and an odd dish each.
        HamperByWeather x = hall("t10;t11;t12;t13;d003;d012;");
        is("34 none has any", x.count(1), 2);
        is("34 even against odd", x.swap(), 103);
        is("34 nothing changes", x.dayOf(0, 0), 3);
        x.packs(0, 1);
        is("34 day 0 well: give 0, take 3", x.swap(), 103);
        x.packs(1, 2);
        is("34 both well", x.swap(), -9);
        x = hall("t50;t10;t11;d001;d006;d006;");
        is("34 sky against a dish", x.swap(), 101);
        x = hall("t50;t10;t11;d000;d006;d007;d001;");
        is("34 the later two", x.swap(), 1310);
        x = hall("t10;t11;d003;d003;");
        is("34 in both", x.swap(), -9);
    }

    private static void oftenAndDrop() {
        HamperByWeather x = hall("t50;t10;t11;d006;d004;d007;");
        is("35 thing", x.often(0), 2);
        is("35 how many", x.often(1), 3);
        is("35 other", x.often(2), -2);
        is("35 other", x.often(-1), -2);
        is("39 least of several", x.drop(), 1);
        x.packs(1, 2);
        is("35 least of several", x.often(0), 1);
        is("35 how many", x.often(1), 2);
        x = hall("t50;t10;d000;");
        is("35 none packed", x.often(0), 0);
        is("35 none packed", x.often(1), 0);
        is("39 all alike", x.drop(), 0);
        x = hall("t50;t10;t11;t13;d006;d010;");
        is("39 the even dish", x.drop(), 1);
        x = new HamperByWeather();
        is("39 no things", x.drop(), -9);
        is("35 no things", x.often(0), -9);
        is("35 no things", x.often(1), 0);
    }

    private static void need() {
        HamperByWeather x = hall("f1634;f2637;f3637;");
        is("38 field", x.need(0), 2);
        is("38 how much", x.need(1), 7);
        is("38 left", x.need(2), 18);
        is("38 other", x.need(3), -2);
        is("38 other", x.need(-1), -2);
        x = new HamperByWeather();
        is("38 none", x.need(0) + x.need(1) + x.need(2), 0);
    }

    private static void rowJudgeClear() {
        HamperByWeather x = hall("t10;t11;d002;d003;d000;");
        is("40 below", x.row(-1), -4);
        is("40 above", x.row(100), -6);
        is("40 one", x.row(99), 1);
        is("42 had", x.clear(), 1);
        is("42 none", x.clear(), 0);
        for (int i = 1; i <= 12; i++) {
            is("40 more", x.row(0), i);
        }
        is("40 no room", x.row(0), -6);
        is("40 below first", x.row(-1), -4);
        is("41 the first", x.judge(), 0);
        is("41 none then", x.count(6), 0);
        is("41 empty", x.judge(), -9);
        int[] right = {1, 9, 0};
        for (int wrong = 0; wrong <= 3; wrong++) {
            for (int i = 0; i < 3; i++) {
                x.row(i == wrong ? 7 : right[i]);
            }
            is("41 judged", x.judge(), wrong == 3 ? -9 : wrong);
        }
        for (int v : right) {
            x.row(v);
        }
        x.row(9);
        is("41 no such day", x.judge(), 3);
    }

    private static void lots() {
        HamperByWeather x = hall("f0639;f1632;");
        is("43 nothing packed", x.lots(1, 0, 0), 10);
        is("43 each from now", x.lots(20, -7, 0), 200);
        is("43 none had none", x.lots(20, -7, 1), 0);
        x.wants(1, 63, 0);
        is("43 no more left", x.lots(3, 1, 0), 27);
        is("43 none had none", x.lots(3, 1, 1), 0);
        is("43 nothing changes", x.fieldOf(0, 1) * 10 + x.count(2), 90);
        is("43 below", x.lots(0, 0, 9), -4);
        is("43 above", x.lots(21, 0, 9), -6);
        is("43 other", x.lots(20, 0, 2), -2);
        is("43 other", x.lots(20, 0, -1), -2);
        // Hampers of an even and an odd dish: of the draws below 4 just 3 can not be.
        x = hall("t10;t11;f0639;f1639;");
        int z = 77;
        int none = 0;
        for (int i = 0; i < 30; i++) {
            z = z * 1103515245 + 12345;
            if (((z & 0x7fffffff) >> 16) % 4 == 3) {
                none++;
            }
        }
        is("43 had none", x.lots(3, 77, 1), none);
        is("43 had none, asked again", x.lots(3, 77, 1), none);
        is("43 work", x.lots(3, 77, 0), Math.min(30 - none, 54));
    }

    private static void imageAndRestore() {
        HamperByWeather x = hall("t10;d001;f0639;w35;s0;s0;");
        is("45 none", x.restore(), -3);
        is("44 done", x.image(), 2);
        x.weighs(3, 0);
        x.packs(0, 0);
        x.thing(2, 4);
        x.day(2);
        x.wants(2, 5, 5);
        x.spends(0, 1);
        x.feed('t');
        x.row(4);
        x.weight(9);
        is("45 done", x.restore(), 2);
        is("45 things", x.count(0), 1);
        is("45 days", x.count(1), 1);
        is("45 weights", x.count(3), 10);
        is("45 hamper", x.dayOf(0, 0), 1);
        is("45 field", x.fieldOf(2, 0) * 10 + x.fieldOf(2, 1), 630);
        is("45 field", x.fieldOf(0, 1), 7);
        is("45 letters stay", x.count(5), 1);
        is("45 row stays", x.count(6), 1);
        is("45 refusals stay", x.count(11), 1);
        is("45 refusals stay", x.count(13), 1);
        x.weighs(0, 9);
        is("45 again", x.restore(), 2);
        is("45 the image is as it was", x.weight(0), 1);
        x.weighs(0, 9);
        x.spends(0, 9);
        is("44 anew", x.image(), 3);
        x.weighs(0, 0);
        is("45 anew", x.restore(), 3);
        is("45 anew", x.weight(0), 9);
    }

    private static void counts() {
        HamperByWeather x = hall("t10;t11;d001;d003;w39;f0639;s0;");
        x.feed('x');
        x.row(1);
        x.row(1);
        x.packs(0, 1);
        int[] due = {2, 2, 1, 14, 4, 1, 2, 1};
        for (int what = 0; what < due.length; what++) {
            is("46 count " + what, x.count(what), due[what]);
        }
        int[] others = {-1, 8, 9, 10, 17, 100, LEAST, MOST, -9};
        for (int what : others) {
            is("46 other " + what, x.count(what), -9);
        }
        is("46 other is no refusal", x.count(12), 0);
    }

    private static void refusalsInOrder() {
        HamperByWeather x = new HamperByWeather();
        x.weight(7);
        x.odds(0, 0, 0);
        x.codes(5);
        x.mean(5);
        x.codes(6);
        x.back();
        x.feed(-1);
        x.row(-1);
        x.row(-1);
        x.wrong(-1, 2, 0);
        x.feed(300);
        x.order(9, 0);
        x.wrong(1, 2, 0);
        x.day(1);
        x.day(1);
        int[] due = {2, 3, 1, 4, 0, 5};
        for (int i = 0; i < due.length; i++) {
            is("46 refusals " + (11 + i), x.count(11 + i), due[i]);
        }
    }
}
