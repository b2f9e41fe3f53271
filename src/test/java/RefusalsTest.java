import java.util.List;
import java.util.function.Supplier;
import java.util.function.ToLongFunction;

/**
 * REFUSALS, promise by promise: "the call answers the number, the first that fits in the order in which it tells them;
 * nothing changes but how many there were". Each refused call is made on one of two objects alike, and all that both
 * answer behind it must be the same but for the one refusal more. The values next to it that are well are asked too.
 */
public final class RefusalsTest {
    private static final long L = 4000000000000000000L;
    private static final int MOST = Integer.MAX_VALUE;
    private static final int LEAST = Integer.MIN_VALUE;

    public static void main(String[] args) {
        feed();
        thingOf();
        dayOf();
        fieldOf();
        weight();
        thing();
        thingFull();
        day();
        dayFull();
        weighs();
        packs();
        wants();
        spends();
        back();
        odds();
        looks();
        pack();
        wanted();
        codes();
        smallest();
        gotIn();
        order();
        whatKind();
        worth();
        bet();
        wrong();
        lightest();
        often();
        sure();
        mean();
        need();
        row();
        lots();
        restore();
        neverRefused();
        Due.close();
    }

    // ---- objects to begin with, each made anew

    /** Four THINGS, three DAYS, an image, six changes that can be taken back, a letter, a ROW of two, one refusal. */
    private static HamperByWeather rich() {
        HamperByWeather x = new HamperByWeather();
        x.thing(0, 3);
        x.thing(1, 4);
        x.thing(2, 0);
        x.thing(3, 8);
        x.day(3);
        x.day(12);
        x.weighs(2, 7);
        x.image();
        x.day(1);
        x.weighs(2, 9);
        x.wants(1, 36, 2);
        x.packs(0, 2);
        x.spends(2, 9);
        x.weighs(0, 4);
        x.wants(0, 63, 5);
        x.feed('t');
        x.row(1);
        x.row(0);
        x.weight(6);
        return x;
    }

    private static HamperByWeather fullOfThings() {
        HamperByWeather x = rich();
        for (int i = 4; i < 8; i++) {
            x.thing(i - 2, i);
        }
        x.weighs(5, 5);
        return x;
    }

    private static HamperByWeather fullOfDays() {
        HamperByWeather x = rich();
        for (int i = 3; i < 8; i++) {
            x.day(i);
        }
        x.weighs(5, 5);
        return x;
    }

    private static HamperByWeather fullOfLetters() {
        HamperByWeather x = rich();
        for (int i = 1; i < 96; i++) {
            x.feed("t10;".charAt(i % 4));
        }
        return x;
    }

    private static HamperByWeather rowOf(int... numbers) {
        HamperByWeather x = rich();
        x.clear();
        for (int v : numbers) {
            x.row(v);
        }
        return x;
    }

    private static HamperByWeather fullRow() {
        return rowOf(0, 1, 2, 3, 4, 5, 6, 7, 8, 9, 98, 99);
    }

    // ---- how a refused call is looked at

    private static void refuses(String call, int number, Supplier<HamperByWeather> made, ToLongFunction<HamperByWeather> one) {
        refused(call, number, number, made, one);
    }

    private static void refusesLong(String call, int number, ToLongFunction<HamperByWeather> one) {
        refused(call, number, L - number, RefusalsTest::rich, one);
    }

    private static void refuses(String call, int number, ToLongFunction<HamperByWeather> one) {
        refused(call, number, number, RefusalsTest::rich, one);
    }

    private static void refused(String call, int number, long due, Supplier<HamperByWeather> made,
            ToLongFunction<HamperByWeather> one) {
        HamperByWeather x = made.get();
        HamperByWeather twin = made.get();
        Due.is(call, one.applyAsLong(x), due);
        for (int what = 11; what <= 16; what++) {
            int more = what == 10 - number ? 1 : 0;
            Due.is(call + ": refusals " + what, x.count(what), twin.count(what) + more);
        }
        List<Long> all = Held.allOf(x);
        List<Long> twins = Held.allOf(twin);
        for (int i = 0; i < all.size(); i++) {
            Due.is(call + ": nothing changes, look " + i, all.get(i), twins.get(i));
        }
    }

    /** What is not refused: of ints above -1 or -9, of longs below the refusals; and none is counted. */
    private static void takes(String call, Supplier<HamperByWeather> made, ToLongFunction<HamperByWeather> one) {
        HamperByWeather x = made.get();
        int before = Held.refusals(x);
        long answer = one.applyAsLong(x);
        Due.is(call + " is well", answer > L || answer < 0 && answer != -9 ? answer : 0, 0);
        Due.is(call + " counts no refusal", Held.refusals(x), before);
    }

    private static void takes(String call, ToLongFunction<HamperByWeather> one) {
        takes(call, RefusalsTest::rich, one);
    }

    // ---- the promises

    /** "A letter comes: how many there are. -4; -6 (255; 96, too)." */
    private static void feed() {
        refuses("2 feed(-1)", -4, x -> x.feed(-1));
        refuses("2 feed(LEAST)", -4, x -> x.feed(LEAST));
        refuses("2 feed(256)", -6, x -> x.feed(256));
        refuses("2 feed(MOST)", -6, x -> x.feed(MOST));
        refuses("2 feed, 96 are there", -6, RefusalsTest::fullOfLetters, x -> x.feed('t'));
        refuses("2 feed(256), 96 are there", -6, RefusalsTest::fullOfLetters, x -> x.feed(256));
        refuses("2 feed(-1), 96 are there", -4, RefusalsTest::fullOfLetters, x -> x.feed(-1));
        takes("2 feed(0)", x -> x.feed(0));
        takes("2 feed(255)", x -> x.feed(255));
    }

    /** "-1; -2." */
    private static void thingOf() {
        int[] none = {-1, 4, 7, 8, LEAST, MOST};
        for (int thing : none) {
            refuses("4 thingOf, thing " + thing, -1, x -> x.thingOf(thing, 0));
            refuses("4 thingOf, both, thing " + thing, -1, x -> x.thingOf(thing, 5));
        }
        refuses("4 thingOf, eight there are", -1, RefusalsTest::fullOfThings, x -> x.thingOf(8, 0));
        refuses("4 thingOf, none there are", -1, HamperByWeather::new, x -> x.thingOf(0, 0));
        int[] others = {-1, 5, LEAST, MOST};
        for (int what : others) {
            refuses("4 thingOf, what " + what, -2, x -> x.thingOf(3, what));
        }
        takes("4 thingOf(0, 4)", x -> x.thingOf(0, 4));
        takes("4 thingOf(3, 0)", x -> x.thingOf(3, 0));
        takes("4 thingOf(7, 0)", RefusalsTest::fullOfThings, x -> x.thingOf(7, 0));
    }

    /** "-1; -2." */
    private static void dayOf() {
        int[] none = {-1, 3, 7, 8, LEAST, MOST};
        for (int day : none) {
            refuses("5 dayOf, day " + day, -1, x -> x.dayOf(day, 0));
            refuses("5 dayOf, both, day " + day, -1, x -> x.dayOf(day, -1));
        }
        refuses("5 dayOf, eight there are", -1, RefusalsTest::fullOfDays, x -> x.dayOf(8, 0));
        refuses("5 dayOf, none there are", -1, HamperByWeather::new, x -> x.dayOf(0, 0));
        int[] others = {-1, 5, LEAST, MOST};
        for (int what : others) {
            refuses("5 dayOf, what " + what, -2, x -> x.dayOf(2, what));
        }
        takes("5 dayOf(0, 4)", x -> x.dayOf(0, 4));
        takes("5 dayOf(2, 0)", x -> x.dayOf(2, 0));
        takes("5 dayOf(7, 0)", RefusalsTest::fullOfDays, x -> x.dayOf(7, 0));
    }

    /** "-1; -2." */
    private static void fieldOf() {
        int[] none = {-1, 4, LEAST, MOST};
        for (int field : none) {
            refuses("6 fieldOf, field " + field, -1, x -> x.fieldOf(field, 0));
            refuses("6 fieldOf, both, field " + field, -1, x -> x.fieldOf(field, 2));
        }
        int[] others = {-1, 2, LEAST, MOST};
        for (int what : others) {
            refuses("6 fieldOf, what " + what, -2, x -> x.fieldOf(3, what));
        }
        takes("6 fieldOf(0, 0)", x -> x.fieldOf(0, 0));
        takes("6 fieldOf(3, 1)", x -> x.fieldOf(3, 1));
    }

    /** "WEIGHT. -1." */
    private static void weight() {
        int[] none = {-1, 6, LEAST, MOST};
        for (int weather : none) {
            refuses("7 weight " + weather, -1, x -> x.weight(weather));
        }
        takes("7 weight(0)", x -> x.weight(0));
        takes("7 weight(5)", x -> x.weight(5));
    }

    /** "-2; -4; -6 (9; 8 there are)." */
    private static void thing() {
        int[] others = {-1, 6, LEAST, MOST};
        for (int kind : others) {
            refuses("8 thing, kind " + kind, -2, x -> x.thing(kind, 0));
            refuses("8 thing, kind and below, " + kind, -2, x -> x.thing(kind, -1));
            refuses("8 thing, kind and above, " + kind, -2, x -> x.thing(kind, 10));
        }
        refuses("8 thing, figure -1", -4, x -> x.thing(0, -1));
        refuses("8 thing, figure LEAST", -4, x -> x.thing(5, LEAST));
        refuses("8 thing, figure 10", -6, x -> x.thing(5, 10));
        refuses("8 thing, figure MOST", -6, x -> x.thing(0, MOST));
        takes("8 thing(0, 0)", x -> x.thing(0, 0));
        takes("8 thing(5, 9)", x -> x.thing(5, 9));
    }

    /** "-6 (.. 8 there are)", behind -2 and -4. */
    private static void thingFull() {
        refuses("8 thing, 8 there are", -6, RefusalsTest::fullOfThings, x -> x.thing(0, 0));
        refuses("8 thing, 8 there are, above", -6, RefusalsTest::fullOfThings, x -> x.thing(0, 10));
        refuses("8 thing, 8 there are, below", -4, RefusalsTest::fullOfThings, x -> x.thing(0, -1));
        refuses("8 thing, 8 there are, kind", -2, RefusalsTest::fullOfThings, x -> x.thing(6, 0));
    }

    /** "-4; -6 (bits of no THINGS; ..)." */
    private static void day() {
        refuses("9 day(-1)", -4, x -> x.day(-1));
        refuses("9 day(LEAST)", -4, x -> x.day(LEAST));
        int[] bitsOfNone = {16, 17, 31, 32, 128, 255, 256, MOST};
        for (int hamper : bitsOfNone) {
            refuses("9 day, bits of no THINGS " + hamper, -6, x -> x.day(hamper));
        }
        refuses("9 day(256), 8 THINGS", -6, RefusalsTest::fullOfThings, x -> x.day(256));
        refuses("9 day(1), no THINGS", -6, HamperByWeather::new, x -> x.day(1));
        takes("9 day(0)", x -> x.day(0));
        takes("9 day(15)", x -> x.day(15));
        takes("9 day(255), 8 THINGS", RefusalsTest::fullOfThings, x -> x.day(255));
        takes("9 day(0), no THINGS", HamperByWeather::new, x -> x.day(0));
    }

    /** "-6 (.. 8 there are)", behind -4. */
    private static void dayFull() {
        refuses("9 day, 8 there are", -6, RefusalsTest::fullOfDays, x -> x.day(0));
        refuses("9 day, 8 there are, bits of none", -6, RefusalsTest::fullOfDays, x -> x.day(16));
        refuses("9 day, 8 there are, below", -4, RefusalsTest::fullOfDays, x -> x.day(-1));
    }

    /** "-1; -4; -6 9." */
    private static void weighs() {
        int[] none = {-1, 6, 9, LEAST, MOST};
        for (int weather : none) {
            refuses("10 weighs, weather " + weather, -1, x -> x.weighs(weather, 0));
            refuses("10 weighs, weather and below " + weather, -1, x -> x.weighs(weather, -1));
            refuses("10 weighs, weather and above " + weather, -1, x -> x.weighs(weather, 10));
        }
        refuses("10 weighs, v -1", -4, x -> x.weighs(0, -1));
        refuses("10 weighs, v LEAST", -4, x -> x.weighs(5, LEAST));
        refuses("10 weighs, v 10", -6, x -> x.weighs(0, 10));
        refuses("10 weighs, v MOST", -6, x -> x.weighs(5, MOST));
        takes("10 weighs(0, 0)", x -> x.weighs(0, 0));
        takes("10 weighs(5, 9)", x -> x.weighs(5, 9));
    }

    /** "-1 either." */
    private static void packs() {
        int[] days = {-1, 3, 8, LEAST, MOST};
        for (int day : days) {
            refuses("11 packs, day " + day, -1, x -> x.packs(day, 0));
            refuses("11 packs, both, day " + day, -1, x -> x.packs(day, 4));
        }
        int[] things = {-1, 4, 8, 32, LEAST, MOST};
        for (int thing : things) {
            refuses("11 packs, thing " + thing, -1, x -> x.packs(0, thing));
        }
        takes("11 packs(0, 3)", x -> x.packs(0, 3));
        takes("11 packs(2, 0)", x -> x.packs(2, 0));
        takes("11 packs(7, 3)", RefusalsTest::fullOfDays, x -> x.packs(7, 3));
        takes("11 packs(2, 7)", RefusalsTest::fullOfThings, x -> x.packs(2, 7));
    }

    /** "-1; -4 either; -6 (63; 9)." */
    private static void wants() {
        int[] none = {-1, 4, LEAST, MOST};
        for (int field : none) {
            refuses("12 wants, field " + field, -1, x -> x.wants(field, 0, 0));
            refuses("12 wants, field and below " + field, -1, x -> x.wants(field, -1, 10));
            refuses("12 wants, field and above " + field, -1, x -> x.wants(field, 64, 0));
        }
        refuses("12 wants, weathers -1", -4, x -> x.wants(0, -1, 0));
        refuses("12 wants, weathers LEAST", -4, x -> x.wants(0, LEAST, 0));
        refuses("12 wants, left -1", -4, x -> x.wants(0, 0, -1));
        refuses("12 wants, left LEAST", -4, x -> x.wants(0, 0, LEAST));
        refuses("12 wants, weathers -1, left above", -4, x -> x.wants(1, -1, 10));
        refuses("12 wants, weathers above, left -1", -4, x -> x.wants(1, 64, -1));
        refuses("12 wants, weathers 64", -6, x -> x.wants(0, 64, 0));
        refuses("12 wants, weathers MOST", -6, x -> x.wants(0, MOST, 0));
        refuses("12 wants, left 10", -6, x -> x.wants(0, 0, 10));
        refuses("12 wants, left MOST", -6, x -> x.wants(0, 0, MOST));
        takes("12 wants(0, 0, 0)", x -> x.wants(0, 0, 0));
        takes("12 wants(3, 63, 9)", x -> x.wants(3, 63, 9));
    }

    /** "-1 either (9 is well)." */
    private static void spends() {
        int[] days = {-1, 3, 8, 9, LEAST, MOST};
        for (int day : days) {
            refuses("13 spends, day " + day, -1, x -> x.spends(day, 9));
            refuses("13 spends, both, day " + day, -1, x -> x.spends(day, 6));
        }
        int[] weathers = {-9, -1, 6, 7, 8, 10, LEAST, MOST};
        for (int weather : weathers) {
            refuses("13 spends, weather " + weather, -1, x -> x.spends(0, weather));
        }
        takes("13 spends(0, 0)", x -> x.spends(0, 0));
        takes("13 spends(2, 5)", x -> x.spends(2, 5));
        takes("13 spends(0, 9)", x -> x.spends(0, 9));
    }

    /** "-3 none." */
    private static void back() {
        refuses("14 back, new", -3, HamperByWeather::new, x -> x.back());
        refuses("14 back, none since thing()", -3, RefusalsTest::justAThing, x -> x.back());
        takes("14 back", x -> x.back());
    }

    private static HamperByWeather justAThing() {
        HamperByWeather x = rich();
        x.thing(5, 5);
        return x;
    }

    /** "Refused as told: -1 either; -2." */
    private static void odds() {
        int[] days = {-1, 3, 8, LEAST, MOST};
        for (int day : days) {
            refusesLong("15 odds, day " + day, -1, x -> x.odds(day, 0, 0));
            refusesLong("15 odds, all, day " + day, -1, x -> x.odds(day, 6, 2));
        }
        int[] weathers = {-1, 6, 9, LEAST, MOST};
        for (int weather : weathers) {
            refusesLong("15 odds, weather " + weather, -1, x -> x.odds(0, weather, 0));
            refusesLong("15 odds, part too, weather " + weather, -1, x -> x.odds(0, weather, -1));
        }
        int[] parts = {-1, 2, LEAST, MOST};
        for (int part : parts) {
            refusesLong("15 odds, part " + part, -2, x -> x.odds(0, 0, part));
        }
        takes("15 odds(0, 0, 0)", x -> x.odds(0, 0, 0));
        takes("15 odds(2, 5, 1)", x -> x.odds(2, 5, 1));
    }

    /** "LOOKS (bits). -1." */
    private static void looks() {
        int[] days = {-1, 3, 8, LEAST, MOST};
        for (int day : days) {
            refuses("16 looks, day " + day, -1, x -> x.looks(day));
        }
        takes("16 looks(0)", x -> x.looks(0));
        takes("16 looks(2)", x -> x.looks(2));
    }

    /** "-1; -2." */
    private static void pack() {
        int[] weathers = {-1, 6, 9, LEAST, MOST};
        for (int weather : weathers) {
            refuses("17 pack, weather " + weather, -1, x -> x.pack(weather, 0));
            refuses("17 pack, both, weather " + weather, -1, x -> x.pack(weather, 2));
        }
        int[] others = {-1, 2, LEAST, MOST};
        for (int what : others) {
            refuses("17 pack, what " + what, -2, x -> x.pack(5, what));
        }
        takes("17 pack(0, 0)", x -> x.pack(0, 0));
        takes("17 pack(5, 1)", x -> x.pack(5, 1));
    }

    /** "WANTED (bits). -1." */
    private static void wanted() {
        int[] none = {-1, 4, LEAST, MOST};
        for (int field : none) {
            refuses("19 wanted " + field, -1, x -> x.wanted(field));
        }
        takes("19 wanted(0)", x -> x.wanted(0));
        takes("19 wanted(3)", x -> x.wanted(3));
    }

    /** "-2." */
    private static void codes() {
        int[] others = {-1, 2, LEAST, MOST};
        for (int what : others) {
            refuses("22 codes " + what, -2, x -> x.codes(what));
        }
        takes("22 codes(0)", x -> x.codes(0));
        takes("22 codes(1)", x -> x.codes(1));
    }

    /** "-4; -6 63", and of its set in the Terms "(1 .. 63)". */
    private static void smallest() {
        int[] below = {0, -1, LEAST};
        for (int weathers : below) {
            refuses("23 smallest " + weathers, -4, x -> x.smallest(weathers));
        }
        int[] above = {64, 65, MOST};
        for (int weathers : above) {
            refuses("23 smallest " + weathers, -6, x -> x.smallest(weathers));
        }
        takes("23 smallest(1)", x -> x.smallest(1));
        takes("23 smallest(63)", x -> x.smallest(63));
    }

    /** "-2." */
    private static void gotIn() {
        int[] others = {-1, 2, LEAST, MOST};
        for (int what : others) {
            refuses("25 gotIn " + what, -2, x -> x.gotIn(what));
        }
        takes("25 gotIn(0)", x -> x.gotIn(0));
        takes("25 gotIn(1)", x -> x.gotIn(1));
    }

    /** "-4 (k below 1, i below -1); -6 8; -3 more than 7 DAYS." */
    private static void order() {
        refuses("26 order, k 0", -4, x -> x.order(0, 0));
        refuses("26 order, k LEAST", -4, x -> x.order(LEAST, 0));
        refuses("26 order, i -2", -4, x -> x.order(1, -2));
        refuses("26 order, i LEAST", -4, x -> x.order(1, LEAST));
        refuses("26 order, k 9, i -2", -4, x -> x.order(9, -2));
        refuses("26 order, k 9", -6, x -> x.order(9, 0));
        refuses("26 order, k MOST", -6, x -> x.order(MOST, -1));
        refuses("26 order, 8 DAYS", -3, RefusalsTest::fullOfDays, x -> x.order(8, -1));
        refuses("26 order, 8 DAYS, one of them", -3, RefusalsTest::fullOfDays, x -> x.order(1, 0));
        refuses("26 order, 8 DAYS, k 9", -6, RefusalsTest::fullOfDays, x -> x.order(9, 0));
        refuses("26 order, 8 DAYS, k 0", -4, RefusalsTest::fullOfDays, x -> x.order(0, 0));
        refuses("26 order, 8 DAYS, i -2", -4, RefusalsTest::fullOfDays, x -> x.order(1, -2));
        takes("26 order(1, -1)", x -> x.order(1, -1));
        takes("26 order(8, -1)", x -> x.order(8, -1));
        takes("26 order(8, 0)", x -> x.order(8, 0));
        takes("26 order(8, 8)", x -> x.order(8, 8));
        takes("26 order, 7 DAYS", RefusalsTest::sevenDays, x -> x.order(8, 6));
    }

    private static HamperByWeather sevenDays() {
        HamperByWeather x = rich();
        for (int i = 3; i < 7; i++) {
            x.day(i);
        }
        return x;
    }

    /** "-1; -2; -3 more than 6 numbers, one above 2." */
    private static void whatKind() {
        int[] things = {-1, 4, 8, LEAST, MOST};
        for (int thing : things) {
            refuses("29 whatKind, thing " + thing, -1, x -> x.whatKind(thing, 0));
            refuses("29 whatKind, both, thing " + thing, -1, x -> x.whatKind(thing, 2));
            refuses("29 whatKind, the ROW too, thing " + thing, -1, RefusalsTest::fullRow, x -> x.whatKind(thing, 0));
        }
        int[] others = {-1, 2, LEAST, MOST};
        for (int what : others) {
            refuses("29 whatKind, what " + what, -2, x -> x.whatKind(3, what));
            refuses("29 whatKind, the ROW too, what " + what, -2, RefusalsTest::fullRow, x -> x.whatKind(3, what));
        }
        for (int what = 0; what <= 1; what++) {
            int asked = what;
            refuses("29 whatKind, 7 numbers", -3, () -> rowOf(0, 1, 2, 0, 1, 2, 0), x -> x.whatKind(0, asked));
            refuses("29 whatKind, 12 numbers", -3, () -> rowOf(2, 2, 2, 2, 2, 2, 2, 2, 2, 2, 2, 2), x -> x.whatKind(0, asked));
            refuses("29 whatKind, the first above 2", -3, () -> rowOf(3), x -> x.whatKind(0, asked));
            refuses("29 whatKind, the last above 2", -3, () -> rowOf(2, 2, 2, 2, 2, 99), x -> x.whatKind(0, asked));
            takes("29 whatKind, 6 numbers", () -> rowOf(0, 1, 2, 0, 1, 2), x -> x.whatKind(0, asked));
            takes("29 whatKind, no numbers", () -> rowOf(), x -> x.whatKind(3, asked));
        }
    }

    /** "Refused as told: -1; -2." */
    private static void worth() {
        int[] days = {-1, 3, 8, LEAST, MOST};
        for (int day : days) {
            refusesLong("30 worth, day " + day, -1, x -> x.worth(day, 0));
            refusesLong("30 worth, both, day " + day, -1, x -> x.worth(day, 2));
        }
        int[] parts = {-1, 2, LEAST, MOST};
        for (int part : parts) {
            refusesLong("30 worth, part " + part, -2, x -> x.worth(0, part));
        }
        takes("30 worth(0, 0)", x -> x.worth(0, 0));
        takes("30 worth(2, 1)", x -> x.worth(2, 1));
    }

    /** "-1 either (one twice)." */
    private static void bet() {
        int[] days = {-1, 3, 8, LEAST, MOST};
        for (int day : days) {
            refuses("31 bet, one " + day, -1, x -> x.bet(day, 0));
            refuses("31 bet, other " + day, -1, x -> x.bet(0, day));
            refuses("31 bet, none twice " + day, -1, x -> x.bet(day, day));
        }
        refuses("31 bet, one twice", -1, x -> x.bet(0, 0));
        refuses("31 bet, one twice", -1, x -> x.bet(2, 2));
        takes("31 bet(0, 2)", x -> x.bet(0, 2));
        takes("31 bet(2, 0)", x -> x.bet(2, 0));
    }

    /** "Refused as told: -4 (n below 0, t below 2); -6 (8, or DAYS; 20); -2." */
    private static void wrong() {
        refusesLong("32 wrong, n -1", -4, x -> x.wrong(-1, 2, 0));
        refusesLong("32 wrong, n LEAST", -4, x -> x.wrong(LEAST, 2, 0));
        refusesLong("32 wrong, t 1", -4, x -> x.wrong(0, 1, 0));
        refusesLong("32 wrong, t LEAST", -4, x -> x.wrong(0, LEAST, 0));
        refusesLong("32 wrong, n above, t below", -4, x -> x.wrong(4, 1, 0));
        refusesLong("32 wrong, n below, t above", -4, x -> x.wrong(-1, 21, 2));
        refusesLong("32 wrong, n more than DAYS", -6, x -> x.wrong(4, 2, 0));
        refusesLong("32 wrong, n 8, 3 DAYS", -6, x -> x.wrong(8, 2, 0));
        refusesLong("32 wrong, n MOST", -6, x -> x.wrong(MOST, 2, 0));
        refusesLong("32 wrong, t 21", -6, x -> x.wrong(0, 21, 0));
        refusesLong("32 wrong, t MOST", -6, x -> x.wrong(0, MOST, 0));
        refusesLong("32 wrong, n above, part too", -6, x -> x.wrong(4, 2, 2));
        refusesLong("32 wrong, t above, part too", -6, x -> x.wrong(3, 21, -1));
        refusesLong("32 wrong, n below, part too", -4, x -> x.wrong(-1, 2, 2));
        refused("32 wrong, n 9, 8 DAYS", -6, L + 6, RefusalsTest::fullOfDays, x -> x.wrong(9, 2, 0));
        refused("32 wrong, n 1, no DAYS", -6, L + 6, HamperByWeather::new, x -> x.wrong(1, 2, 0));
        int[] parts = {-1, 2, LEAST, MOST};
        for (int part : parts) {
            refusesLong("32 wrong, part " + part, -2, x -> x.wrong(3, 20, part));
        }
        takes("32 wrong(0, 2, 0)", x -> x.wrong(0, 2, 0));
        takes("32 wrong(3, 20, 1)", x -> x.wrong(3, 20, 1));
        takes("32 wrong(8, 20, 1)", RefusalsTest::fullOfDays, x -> x.wrong(8, 20, 1));
        takes("32 wrong(0, 2, 0), no DAYS", HamperByWeather::new, x -> x.wrong(0, 2, 0));
    }

    /** "-2." */
    private static void lightest() {
        int[] others = {-1, 2, LEAST, MOST};
        for (int what : others) {
            refuses("33 lightest " + what, -2, x -> x.lightest(what));
            refuses("33 lightest, no DAYS " + what, -2, HamperByWeather::new, x -> x.lightest(what));
        }
        takes("33 lightest(0)", x -> x.lightest(0));
        takes("33 lightest(1)", x -> x.lightest(1));
    }

    /** "-2." */
    private static void often() {
        int[] others = {-1, 2, LEAST, MOST};
        for (int what : others) {
            refuses("35 often " + what, -2, x -> x.often(what));
            refuses("35 often, no THINGS " + what, -2, HamperByWeather::new, x -> x.often(what));
        }
        takes("35 often(0)", x -> x.often(0));
        takes("35 often(1)", x -> x.often(1));
    }

    /** "-2." */
    private static void sure() {
        int[] others = {-1, 2, LEAST, MOST};
        for (int what : others) {
            refuses("36 sure " + what, -2, x -> x.sure(what));
        }
        takes("36 sure(0)", x -> x.sure(0));
        takes("36 sure(1)", x -> x.sure(1));
    }

    /** "Refused as told: -2." */
    private static void mean() {
        int[] parts = {-1, 2, LEAST, MOST};
        for (int part : parts) {
            refusesLong("37 mean, part " + part, -2, x -> x.mean(part));
            refused("37 mean, no DAYS, part " + part, -2, L + 2, HamperByWeather::new, x -> x.mean(part));
        }
        takes("37 mean(0)", x -> x.mean(0));
        takes("37 mean(1)", x -> x.mean(1));
    }

    /** "-2." */
    private static void need() {
        int[] others = {-1, 3, LEAST, MOST};
        for (int what : others) {
            refuses("38 need " + what, -2, x -> x.need(what));
        }
        takes("38 need(0)", x -> x.need(0));
        takes("38 need(2)", x -> x.need(2));
    }

    /** "-4; -6 (99; 12, too)." */
    private static void row() {
        refuses("40 row(-1)", -4, x -> x.row(-1));
        refuses("40 row(LEAST)", -4, x -> x.row(LEAST));
        refuses("40 row(100)", -6, x -> x.row(100));
        refuses("40 row(MOST)", -6, x -> x.row(MOST));
        refuses("40 row, 12 are there", -6, RefusalsTest::fullRow, x -> x.row(0));
        refuses("40 row(100), 12 are there", -6, RefusalsTest::fullRow, x -> x.row(100));
        refuses("40 row(-1), 12 are there", -4, RefusalsTest::fullRow, x -> x.row(-1));
        takes("40 row(0)", x -> x.row(0));
        takes("40 row(99)", x -> x.row(99));
    }

    /** "-4; -6 20; -2." */
    private static void lots() {
        refuses("43 lots, n 0", -4, x -> x.lots(0, 0, 0));
        refuses("43 lots, n LEAST", -4, x -> x.lots(LEAST, 0, 0));
        refuses("43 lots, n 0, what too", -4, x -> x.lots(0, 0, 2));
        refuses("43 lots, n 21", -6, x -> x.lots(21, 0, 0));
        refuses("43 lots, n MOST", -6, x -> x.lots(MOST, 0, 0));
        refuses("43 lots, n 21, what too", -6, x -> x.lots(21, 0, -1));
        int[] others = {-1, 2, LEAST, MOST};
        for (int what : others) {
            refuses("43 lots, what " + what, -2, x -> x.lots(20, 0, what));
        }
        takes("43 lots(1, 0, 0)", x -> x.lots(1, 0, 0));
        takes("43 lots(20, LEAST, 1)", x -> x.lots(20, LEAST, 1));
        takes("43 lots(20, MOST, 0)", x -> x.lots(20, MOST, 0));
    }

    /** "-3 there is none." */
    private static void restore() {
        refuses("45 restore", -3, RefusalsTest::changedWithoutImage, x -> x.restore());
        takes("45 restore", x -> x.restore());
        takes("45 restore of a new object", RefusalsTest::imageOfNew, x -> x.restore());
    }

    private static HamperByWeather changedWithoutImage() {
        HamperByWeather x = new HamperByWeather();
        x.thing(2, 2);
        x.day(1);
        x.weighs(1, 5);
        x.spends(0, 0);
        x.feed(';');
        x.row(2);
        return x;
    }

    private static HamperByWeather imageOfNew() {
        HamperByWeather x = new HamperByWeather();
        x.image();
        return x;
    }

    /** These tell of no refusal: none is counted, with nothing there and with all there is room for. */
    private static void neverRefused() {
        List<Supplier<HamperByWeather>> all = List.of(HamperByWeather::new, RefusalsTest::rich,
            RefusalsTest::fullOfThings, RefusalsTest::fullOfDays, RefusalsTest::fullOfLetters, RefusalsTest::fullRow);
        for (Supplier<HamperByWeather> made : all) {
            HamperByWeather x = made.get();
            int before = Held.refusals(x);
            x.rope();
            x.apart();
            x.tell();
            x.eggAndRope();
            x.plan();
            x.spare();
            x.swap();
            x.drop();
            x.judge();
            x.judge();
            x.clear();
            x.clear();
            x.hall();
            x.hall();
            x.image();
            int[] whats = {-1, 8, 9, 10, 17, LEAST, MOST};
            for (int what : whats) {
                Due.is("46 count " + what, x.count(what), -9);
            }
            Due.is("no refusal of what tells of none", Held.refusals(x), before);
        }
    }
}
