/** The edges of what there is and of its changes (Terms I and III, the image, count): for each sentence a test. */
public final class TermEdgesTest {
    private static final int MOST = Integer.MAX_VALUE;
    private static final int LEAST = Integer.MIN_VALUE;

    public static void main(String[] args) {
        atFirst();
        thingsAsTheyCome();
        daysAsTheyCome();
        goesWith();
        heavy();
        dear();
        couldBeOfEmpty();
        couldBeOfAll();
        likeliestOfSeveral();
        likeliestNoneCouldBe();
        likeliestOfNoWeight();
        heavyAndDearOfNone();
        weighsAtItsEnds();
        packsAtItsEnds();
        wantsAtItsEnds();
        spentOnTheLeast();
        spentWithoutWanting();
        spentOnNothing();
        doneAtMost();
        backOfEach();
        backOfWhatStays();
        backLatestFirst();
        backEightAtMost();
        backRefusedDoNotCount();
        backNoneBehind();
        backStaysBehind();
        imageNone();
        imageOfAll();
        imageLeavesOut();
        imageAgain();
        rowAtItsEnds();
        countOfEmpty();
        countOfFull();
        countOfAnother();
        refusalsEachCounted();
        longRefusals();
        manyCalls();
        Due.close();
    }

    private static void is(String call, long got, long want) {
        Due.is(call, got, want);
    }

    private static HamperByWeather hall(String text) {
        return Due.hall(text);
    }

    private static HamperByWeather full() {
        HamperByWeather x = new HamperByWeather();
        for (int i = 0; i < 8; i++) {
            x.thing(5, i);
        }
        for (int i = 0; i < 8; i++) {
            x.day(255);
        }
        return x;
    }

    /** "1 at first", "all at first", "0 at first", "no THINGS, no DAYS". */
    private static void atFirst() {
        HamperByWeather x = new HamperByWeather();
        for (int w = 0; w < 6; w++) {
            is("weight " + w + " at first", x.weight(w), 1);
        }
        for (int f = 0; f < 4; f++) {
            is("wants " + f + " at first", x.fieldOf(f, 0), 63);
            is("left " + f + " at first", x.fieldOf(f, 1), 0);
        }
        is("no THINGS", x.count(0), 0);
        is("no DAYS", x.count(1), 0);
        is("DONE at first", x.count(2), 0);
        is("no image", x.restore(), -3);
        is("nothing to be taken back", x.back(), -3);
        is("no letters", x.hall(), -1000);
        is("no ROW", x.clear(), 0);
    }

    /** "THINGS 0 .. 7 as they come (8 at most)". */
    private static void thingsAsTheyCome() {
        HamperByWeather x = new HamperByWeather();
        for (int i = 0; i < 8; i++) {
            is("its number", x.thing(i % 6, 9 - i), i);
            is("how many", x.count(0), i + 1);
        }
        is("no ninth", x.thing(0, 0), -6);
        for (int i = 0; i < 8; i++) {
            is("kind " + i, x.thingOf(i, 0), i % 6);
            is("figure " + i, x.thingOf(i, 1), 9 - i);
        }
        is("no ninth", x.thingOf(8, 0), -1);
    }

    /** "DAYS 0 .. 7 as they come (8 at most): a HAMPER (THINGS, bits; may be none)". */
    private static void daysAsTheyCome() {
        HamperByWeather x = new HamperByWeather();
        for (int i = 0; i < 3; i++) {
            x.thing(5, 0);
        }
        for (int i = 0; i < 8; i++) {
            is("its number", x.day(7 - i), i);
            is("how many", x.count(1), i + 1);
        }
        is("no ninth", x.day(0), -6);
        for (int i = 0; i < 8; i++) {
            is("hamper " + i, x.dayOf(i, 0), 7 - i);
        }
        is("no ninth", x.dayOf(8, 0), -1);
    }

    /** Each KIND with each FIGURE 0 to 9, what 2, 3 or 4 of thingOf. */
    private static void each(String name, int what, int[][] due) {
        for (int kind = 0; kind < 6; kind++) {
            for (int figure = 0; figure <= 9; figure++) {
                HamperByWeather x = new HamperByWeather();
                x.thing(kind, figure);
                is(name + " of kind " + kind + ", figure " + figure, x.thingOf(0, what), due[kind][figure]);
            }
        }
    }

    /** "THING unless w is FIGURE modulo 6; DISH ..; ROPE as a COAT, and w FIGURE modulo 6, too; TRIFLE .. not 1; SKY always". */
    private static void goesWith() {
        each("GOES WITH", 4, new int[][] {
            {62, 61, 59, 55, 47, 31, 62, 61, 59, 55},
            {21, 42, 21, 42, 21, 42, 21, 42, 21, 42},
            {38, 38, 38, 38, 38, 38, 38, 38, 38, 38},
            {39, 38, 38, 46, 54, 38, 39, 38, 38, 46},
            {21, 40, 21, 40, 21, 40, 21, 40, 21, 40},
            {63, 63, 63, 63, 63, 63, 63, 63, 63, 63}});
    }

    /** "THING FIGURE plus 1; DISH 2 more; COAT 4; ROPE half of a COAT's, cut; TRIFLE twice a DISH's; SKY 0". */
    private static void heavy() {
        each("HEAVY", 2, new int[][] {
            {1, 2, 3, 4, 5, 6, 7, 8, 9, 10},
            {3, 4, 5, 6, 7, 8, 9, 10, 11, 12},
            {4, 4, 4, 4, 4, 4, 4, 4, 4, 4},
            {2, 2, 2, 2, 2, 2, 2, 2, 2, 2},
            {6, 8, 10, 12, 14, 16, 18, 20, 22, 24},
            {0, 0, 0, 0, 0, 0, 0, 0, 0, 0}});
    }

    /** "THING 1; DISH FIGURE; COAT 3 more ..; ROPE a COAT's less FIGURE over 3, cut (0 at least); TRIFLE 5 more ..; SKY 9". */
    private static void dear() {
        each("DEAR", 3, new int[][] {
            {1, 1, 1, 1, 1, 1, 1, 1, 1, 1},
            {0, 1, 2, 3, 4, 5, 6, 7, 8, 9},
            {4, 4, 4, 4, 4, 4, 4, 4, 4, 4},
            {4, 4, 4, 3, 3, 3, 2, 2, 2, 1},
            {5, 6, 7, 8, 9, 10, 11, 12, 13, 14},
            {9, 9, 9, 9, 9, 9, 9, 9, 9, 9}});
    }

    /** "COULD BE ..: WEATHERS all its THINGS GO WITH (all, if it is empty)". */
    private static void couldBeOfEmpty() {
        HamperByWeather x = hall("t10;d000;d001;");
        is("empty", x.dayOf(0, 1), 63);
        is("not empty", x.dayOf(1, 1), 21);
        x.packs(1, 0);
        is("emptied", x.dayOf(1, 1), 63);
        x.packs(0, 0);
        is("not empty any more", x.dayOf(0, 1), 21);
        is("empty, without THINGS", hall("d000;").dayOf(0, 1), 63);
    }

    /** "WEATHERS all its THINGS GO WITH": of eight, each takes one away. */
    private static void couldBeOfAll() {
        HamperByWeather x = hall("t00;t01;t02;t03;t04;t05;t06;t50;d000;");
        int[] due = {62, 60, 56, 48, 32, 0, 0, 0};
        for (int t = 0; t < 8; t++) {
            x.packs(0, t);
            is("with THINGS up to " + t, x.dayOf(0, 1), due[t]);
        }
        is("all eight", x.dayOf(0, 0), 255);
    }

    /** "LIKELIEST: of these that of the greatest WEIGHT above 0, of several the least". */
    private static void likeliestOfSeveral() {
        HamperByWeather x = hall("t20;d000;d001;");
        is("of all the least", x.dayOf(0, 2), 0);
        is("of a COAT's the least", x.dayOf(1, 2), 1);
        x.weighs(5, 2);
        is("the greatest", x.dayOf(1, 2), 5);
        x.weighs(2, 2);
        is("of two the least", x.dayOf(1, 2), 2);
        x.weighs(0, 9);
        is("greater, but not of these", x.dayOf(1, 2), 2);
        is("of all the greatest", x.dayOf(0, 2), 0);
        x.weighs(5, 9);
        is("of two the least", x.dayOf(0, 2), 0);
        is("the last", x.dayOf(1, 2), 5);
        for (int w = 0; w < 6; w++) {
            x.weighs(w, w == 2 ? 1 : 0);
        }
        is("1 is above 0", x.dayOf(0, 2), 2);
    }

    /** "-9 (none could be ..)". */
    private static void likeliestNoneCouldBe() {
        HamperByWeather x = hall("t10;t11;d003;w09;w19;");
        is("none could be", x.dayOf(0, 1), 0);
        is("no LIKELIEST", x.dayOf(0, 2), -9);
        x.packs(0, 1);
        is("one less", x.dayOf(0, 2), 0);
    }

    /** "-9 (.. or of no WEIGHT)". */
    private static void likeliestOfNoWeight() {
        HamperByWeather x = hall("t20;d000;d001;w10;w20;w50;");
        is("of no WEIGHT", x.dayOf(1, 2), -9);
        is("others have", x.dayOf(0, 2), 0);
        x.weighs(0, 0);
        x.weighs(3, 0);
        is("one has", x.dayOf(0, 2), 4);
        x.weighs(4, 0);
        is("none has", x.dayOf(0, 2), -9);
    }

    /** HEAVY and DEAR together of a HAMPER that is empty, and of one that holds all eight. */
    private static void heavyAndDearOfNone() {
        HamperByWeather x = hall("t49;t49;t49;t49;t49;t49;t49;t49;d000;d255;");
        is("heavy of none", x.dayOf(0, 3), 0);
        is("dear of none", x.dayOf(0, 4), 0);
        is("heavy of all", x.dayOf(1, 3), 8 * 24);
        is("dear of all", x.dayOf(1, 4), 8 * 14);
    }

    /** "WEIGHT .. (0 .. 9)": "becomes v: what it was". */
    private static void weighsAtItsEnds() {
        HamperByWeather x = new HamperByWeather();
        int[] weathers = {0, 5};
        for (int w : weathers) {
            is("what it was at first", x.weighs(w, 0), 1);
            is("0", x.weight(w), 0);
            is("what it was", x.weighs(w, 9), 0);
            is("9", x.weight(w), 9);
            is("10", x.weighs(w, 10), -6);
            is("-1", x.weighs(w, -1), -4);
            is("9 still", x.weighs(w, 9), 9);
        }
    }

    /** "A THING is packed for a DAY, or not any more: 1, 0": the first and the last of both. */
    private static void packsAtItsEnds() {
        HamperByWeather x = full();
        is("not any more", x.packs(7, 7), 0);
        is("hamper", x.dayOf(7, 0), 127);
        is("packed", x.packs(7, 7), 1);
        is("hamper", x.dayOf(7, 0), 255);
        is("not any more", x.packs(0, 0), 0);
        is("hamper", x.dayOf(0, 0), 254);
        is("packed", x.packs(0, 0), 1);
        for (int t = 0; t < 8; t++) {
            is("not any more", x.packs(3, t), 0);
        }
        is("none left", x.dayOf(3, 0), 0);
        is("into an empty one", x.packs(3, 4), 1);
    }

    /** "WANTS, LEFT of a FIELD become others: what was LEFT": 0 and 63, 0 and 9. */
    private static void wantsAtItsEnds() {
        HamperByWeather x = new HamperByWeather();
        int[] fields = {0, 3};
        for (int f : fields) {
            is("what was at first", x.wants(f, 0, 9), 0);
            is("wants none", x.fieldOf(f, 0) * 10 + x.fieldOf(f, 1), 9);
            is("what was", x.wants(f, 63, 0), 9);
            is("wants all", x.fieldOf(f, 0) * 10 + x.fieldOf(f, 1), 630);
            is("what was", x.wants(f, 63, 0), 0);
        }
    }

    /** "the least FIELD that has LEFT above 0 and WANTS it has 1 less, DONE is 1 more". */
    private static void spentOnTheLeast() {
        HamperByWeather x = hall("d000;f0630;f1011;f2631;f3632;");
        is("0 has none left", x.spends(0, 0), 1);
        is("1 has none left", x.spends(0, 0), 2);
        is("2 has none left", x.spends(0, 0), 3);
        is("3 has one left", x.spends(0, 0), 3);
        is("none", x.spends(0, 0), -9);
        is("done", x.count(2), 4);
        is("none left", x.need(2), 0);
    }

    /** "and WANTS it": the least and the greatest WEATHER alone, or none. */
    private static void spentWithoutWanting() {
        HamperByWeather x = hall("d000;f0009;f1019;f2329;f3309;");
        int[] due = {1, 3, 3, 3, 3, 2};
        for (int w = 0; w < 6; w++) {
            is("weather " + w, x.spends(0, w), due[w]);
        }
        is("who wants none has all", x.fieldOf(0, 1), 9);
        is("its LIKELIEST", x.spends(0, 9), 1);
    }

    /** "none: nothing", "-9 nothing": no FIELD, or no LIKELIEST. */
    private static void spentOnNothing() {
        HamperByWeather x = hall("t10;t11;d000;d003;f0020;f1019;");
        is("no FIELD", x.spends(0, 1), -9);
        is("no LIKELIEST", x.spends(1, 9), -9);
        is("nothing done", x.count(2), 0);
        is("all left", x.need(2), 9);
        is("a WEATHER that could not be is told", x.spends(1, 0), 1);
    }

    /** "DONE (0 .. 999 ..)", "DONE is 1 more (999 at most)". So many calls are above 512: free, but it should stand. */
    private static void doneAtMost() {
        HamperByWeather x = hall("d000;");
        for (int done = 0; done < 999; done++) {
            if (done % 9 == 0) {
                x.wants(0, 63, 9);
            }
            x.spends(0, 9);
        }
        is("999", x.count(2), 999);
        x.wants(0, 63, 9);
        is("the FIELD all the same", x.spends(0, 9), 0);
        is("1 less", x.fieldOf(0, 1), 8);
        is("999 at most", x.count(2), 999);
        is("taken back", x.back(), 7);
        is("as it was", x.count(2), 999);
        is("as it was", x.fieldOf(0, 1), 9);
        is("image", x.image(), 999);
    }

    /** III: "What weighs(), packs(), wants(), spends() changed can be TAKEN BACK": each alone. */
    private static void backOfEach() {
        HamperByWeather x = hall("t20;d000;f3334;");
        x.weighs(5, 0);
        is("weighs", x.back(), 0);
        is("weighs", x.weight(5), 1);
        x.packs(0, 0);
        is("packs", x.back(), 0);
        is("packs", x.dayOf(0, 0), 0);
        x.packs(0, 0);
        x.packs(0, 0);
        is("packs, not any more", x.back(), 1);
        is("packs, not any more", x.dayOf(0, 0), 1);
        x.back();
        x.wants(3, 0, 0);
        is("wants", x.back(), 0);
        is("wants", x.fieldOf(3, 0) * 10 + x.fieldOf(3, 1), 334);
        x.spends(0, 9);
        is("spends", x.back(), 0);
        is("spends", x.fieldOf(3, 1) * 10 + x.count(2), 40);
        is("none", x.back(), -3);
    }

    /** III: "(each that is not refused counts, also if all stays as it was)". */
    private static void backOfWhatStays() {
        HamperByWeather x = hall("d000;");
        x.weighs(2, 1);
        is("weighs as it was", x.count(7), 1);
        x.wants(1, 63, 0);
        is("wants as it was", x.count(7), 2);
        x.spends(0, 9);
        is("spends on nothing", x.count(7), 3);
        x.spends(0, 3);
        is("spends on nothing", x.count(7), 4);
        for (int left = 3; left >= 0; left--) {
            is("taken back", x.back(), left);
        }
        is("none", x.back(), -3);
    }

    /** III: "the latest first". */
    private static void backLatestFirst() {
        HamperByWeather x = hall("d000;");
        x.weighs(0, 2);
        x.wants(0, 63, 2);
        x.spends(0, 9);
        x.weighs(0, 3);
        x.spends(0, 9);
        is("the fifth", x.back() * 100 + x.weight(0) * 10 + x.fieldOf(0, 1), 431);
        is("the fourth", x.back() * 100 + x.weight(0) * 10 + x.fieldOf(0, 1), 321);
        is("the third", x.back() * 100 + x.weight(0) * 10 + x.fieldOf(0, 1), 222);
        is("the second", x.back() * 100 + x.weight(0) * 10 + x.fieldOf(0, 1), 120);
        x.weighs(1, 5);
        is("another instead", x.count(7), 2);
        is("that first", x.back() * 100 + x.weight(1), 101);
        is("then the first", x.back() * 100 + x.weight(0), 1);
    }

    /** III: "8 at most (older ones no more ..)". */
    private static void backEightAtMost() {
        for (int changes = 7; changes <= 20; changes++) {
            HamperByWeather x = new HamperByWeather();
            for (int i = 1; i <= changes; i++) {
                x.weighs(0, i % 10);
            }
            int can = Math.min(changes, 8);
            is(changes + " changes", x.count(7), can);
            for (int i = 1; i <= can; i++) {
                is(changes + " changes, back", x.back(), can - i);
                int before = changes - i;
                is(changes + " changes, back to " + before, x.weight(0), before == 0 ? 1 : before % 10);
            }
            is(changes + " changes, older ones no more", x.back(), -3);
        }
    }

    /** III: "(each that is not refused counts ..)": a refused one does not. */
    private static void backRefusedDoNotCount() {
        HamperByWeather x = hall("t20;d000;");
        x.weighs(6, 1);
        x.weighs(0, -1);
        x.weighs(0, 10);
        x.packs(1, 0);
        x.packs(0, 1);
        x.wants(4, 0, 0);
        x.wants(0, -1, 0);
        x.wants(0, 0, 10);
        x.spends(1, 0);
        x.spends(0, 6);
        is("none", x.count(7), 0);
        is("none", x.back(), -3);
    }

    private static HamperByWeather changed() {
        HamperByWeather x = hall("t20;d000;");
        x.image();
        x.weighs(0, 5);
        x.packs(0, 0);
        return x;
    }

    /** III: "(.. thing(), day(), a HALL without FAULT, restore() .. leave none)". */
    private static void backNoneBehind() {
        HamperByWeather x = changed();
        x.thing(0, 0);
        is("thing", x.count(7) * 100 + x.back(), -3);
        x = changed();
        x.day(0);
        is("day", x.count(7) * 100 + x.back(), -3);
        x = changed();
        Due.feed(x, "w11;");
        x.hall();
        is("hall", x.count(7) * 100 + x.back(), -3);
        x = changed();
        x.restore();
        is("restore", x.count(7) * 100 + x.back(), -3);
        x.weighs(0, 5);
        is("one again", x.count(7), 1);
    }

    /** III: "(.. where they are not refused ..)": refused, or of another kind, they leave all. */
    private static void backStaysBehind() {
        HamperByWeather x = changed();
        x.thing(6, 0);
        x.thing(0, -1);
        x.thing(0, 10);
        x.day(-1);
        x.day(2);
        x.hall();
        Due.feed(x, "t60;");
        x.hall();
        x.image();
        x.row(1);
        x.judge();
        x.clear();
        x.lots(20, 1, 0);
        x.gotIn(0);
        x.order(1, 0);
        is("two", x.count(7), 2);
        is("taken back", x.back() * 10 + x.dayOf(0, 0), 10);
        is("taken back", x.back() * 10 + x.weight(0), 1);
        HamperByWeather full = full();
        full.weighs(0, 2);
        full.thing(0, 0);
        full.day(0);
        is("no room", full.count(7), 1);
        HamperByWeather none = new HamperByWeather();
        none.weighs(0, 2);
        none.restore();
        is("no image", none.count(7), 1);
    }

    /** Promise 45: "-3 there is none". */
    private static void imageNone() {
        HamperByWeather x = full();
        is("none", x.restore(), -3);
        is("taken", x.image(), 0);
        is("there is one", x.restore(), 0);
    }

    /** "THE IMAGE: all that there is of I": also of nothing, and of all there is room for. */
    private static void imageOfAll() {
        HamperByWeather x = new HamperByWeather();
        is("of nothing", x.image(), 0);
        for (int i = 0; i < 8; i++) {
            x.thing(2, i);
        }
        for (int i = 0; i < 8; i++) {
            x.day(i);
        }
        x.wants(3, 1, 9);
        x.spends(0, 0);
        is("nothing again", x.restore(), 0);
        is("nothing again", x.count(0) + x.count(1) + x.count(2), 0);
        is("nothing again", x.fieldOf(3, 0) * 10 + x.fieldOf(3, 1), 630);
        is("no THING", x.thingOf(0, 0), -1);
        is("room again", x.thing(0, 0), 0);
        x = full();
        for (int w = 0; w < 6; w++) {
            x.weighs(w, w);
        }
        for (int f = 0; f < 4; f++) {
            x.wants(f, 60 + f, 6 + f);
        }
        x.spends(7, 5);
        is("of all", x.image(), 1);
        for (int w = 0; w < 6; w++) {
            x.weighs(w, 9);
        }
        for (int f = 0; f < 4; f++) {
            x.wants(f, 0, 0);
        }
        x.packs(7, 7);
        x.packs(0, 0);
        is("all again", x.restore(), 1);
        for (int w = 0; w < 6; w++) {
            is("weight", x.weight(w), w);
        }
        for (int f = 0; f < 4; f++) {
            is("field", x.fieldOf(f, 0) * 10 + x.fieldOf(f, 1), 606 + 11 * f - (f == 0 ? 1 : 0));
        }
        is("hampers", x.dayOf(7, 0) + x.dayOf(0, 0), 510);
    }

    /** "but it, letters, the ROW, REFUSALS": these are as they were, and the image stays. */
    private static void imageLeavesOut() {
        HamperByWeather x = new HamperByWeather();
        x.feed('w');
        x.row(7);
        x.weight(6);
        x.image();
        x.feed('1');
        x.feed('4');
        x.feed(';');
        x.row(8);
        x.weight(6);
        x.thing(6, 0);
        is("restored", x.restore(), 0);
        is("letters", x.count(5), 4);
        is("the ROW", x.count(6), 2);
        is("REFUSALS", x.count(11) * 10 + x.count(12), 21);
        is("the letters are a HALL", x.hall() * 10 + x.weight(1), 14);
        is("the image stays", x.restore() * 10 + x.weight(1), 1);
    }

    /** "THE IMAGE is taken": anew, and changes behind it don't reach it. */
    private static void imageAgain() {
        HamperByWeather x = hall("t20;d000;f0639;");
        x.image();
        x.spends(0, 9);
        is("taken anew", x.image(), 1);
        x.spends(0, 9);
        x.packs(0, 0);
        is("that one", x.restore(), 1);
        is("that one", x.fieldOf(0, 1), 8);
        x.spends(0, 9);
        x.packs(0, 0);
        is("once more", x.restore(), 1);
        is("once more", x.fieldOf(0, 1) * 10 + x.dayOf(0, 0), 80);
    }

    /** "A ROW of numbers (0 .. 99; 12 at most)", "The ROW has none then: how many it had". */
    private static void rowAtItsEnds() {
        HamperByWeather x = new HamperByWeather();
        is("0", x.row(0), 1);
        is("99", x.row(99), 2);
        is("100", x.row(100), -6);
        is("-1", x.row(-1), -4);
        for (int i = 3; i <= 12; i++) {
            is("more", x.row(i), i);
        }
        is("12 at most", x.row(0), -6);
        is("all", x.clear(), 12);
        is("none then", x.count(6), 0);
        is("none", x.clear(), 0);
        is("room again", x.row(5), 1);
    }

    /** Promise 46 of a new object. */
    private static void countOfEmpty() {
        HamperByWeather x = new HamperByWeather();
        int[] due = {0, 0, 0, 6, 0, 0, 0, 0};
        for (int what = 0; what < due.length; what++) {
            is("count " + what, x.count(what), due[what]);
        }
        for (int what = 11; what <= 16; what++) {
            is("count " + what, x.count(what), 0);
        }
    }

    /** Promise 46 of all there is room for: "4 all packed (each counted)". */
    private static void countOfFull() {
        HamperByWeather x = full();
        is("all packed", x.count(4), 64);
        for (int w = 0; w < 6; w++) {
            x.weighs(w, 9);
        }
        is("all WEIGHTS", x.count(3), 54);
        for (int w = 0; w < 6; w++) {
            x.weighs(w, 0);
        }
        is("all WEIGHTS", x.count(3), 0);
        is("TAKEN BACK", x.count(7), 8);
        for (int i = 0; i < 96; i++) {
            x.feed(i);
        }
        is("letters", x.count(5), 96);
        for (int i = 0; i < 12; i++) {
            x.row(i);
        }
        is("in the ROW", x.count(6), 12);
        is("THINGS and DAYS", x.count(0) * 10 + x.count(1), 88);
    }

    /** Promise 46: "-9 for another what", and it is no refusal. */
    private static void countOfAnother() {
        HamperByWeather x = full();
        int[] others = {-1, 8, 9, 10, 17, 18, -11, -16, 256, LEAST, MOST};
        for (int what : others) {
            is("count " + what, x.count(what), -9);
        }
        is("no refusal", Held.refusals(x), 0);
    }

    /** Promise 46: "11 .. 16 REFUSALS -1 .. -6": each on its own, none of -5. */
    private static void refusalsEachCounted() {
        HamperByWeather x = new HamperByWeather();
        for (int i = 0; i < 6; i++) {
            x.weight(6);
        }
        for (int i = 0; i < 5; i++) {
            x.codes(2);
        }
        for (int i = 0; i < 4; i++) {
            x.back();
        }
        for (int i = 0; i < 3; i++) {
            x.feed(-1);
        }
        for (int i = 0; i < 2; i++) {
            x.feed(256);
        }
        int[] due = {6, 5, 4, 3, 0, 2};
        for (int i = 0; i < due.length; i++) {
            is("refusals " + (11 + i), x.count(11 + i), due[i]);
        }
    }

    /** "Of longs 4000000000000000000 less them (-1 as 4000000000000000001)", and they are counted as the others. */
    private static void longRefusals() {
        HamperByWeather x = hall("d000;");
        is("-1 as", x.odds(1, 0, 0), 4000000000000000001L);
        is("-2 as", x.odds(0, 0, 2), 4000000000000000002L);
        is("-4 as", x.wrong(-1, 2, 0), 4000000000000000004L);
        is("-6 as", x.wrong(2, 2, 0), 4000000000000000006L);
        is("-1 as", x.worth(1, 0), 4000000000000000001L);
        is("-2 as", x.mean(2), 4000000000000000002L);
        int[] due = {2, 2, 0, 1, 0, 1};
        for (int i = 0; i < due.length; i++) {
            is("refusals " + (11 + i), x.count(11 + i), due[i]);
        }
    }

    /** "An object is used for at most 512 calls": all of these are as they must be. */
    private static void manyCalls() {
        HamperByWeather x = new HamperByWeather();
        for (int i = 0; i < 511; i++) {
            x.weight(6);
        }
        is("the 512th call", x.count(11), 511);
        x = new HamperByWeather();
        x.day(0);
        for (int i = 0; i < 170; i++) {
            is("wants", x.wants(0, 63, 3), i == 0 ? 0 : 2);
            is("spends", x.spends(0, 9), 0);
            is("done", x.count(2), i + 1);
        }
        is("the 512th call", x.count(2), 170);
    }
}
