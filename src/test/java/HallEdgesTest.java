import java.util.List;

/** The edges of a HALL told in letters (Terms, promises 2 and 3): for each sentence that names one, a test of its own. */
public final class HallEdgesTest {
    private static final String EIGHT_THINGS = "t00;t11;t22;t33;t44;t55;t06;t17;";
    private static final String EIGHT_DAYS = "d000;d000;d000;d000;d000;d000;d000;d000;";
    private static final String[] FORMS = {"t59;", "d000;", "w59;", "f3639;", "s7;", "p77;"};

    public static void main(String[] args) {
        mostLetters();
        cutOffByTheMost();
        semicolonBehindEach();
        digitsInEachPlace();
        headInEachPlace();
        theEndIfSomethingLacks();
        atLeastOneStatement();
        kindsAndFigures();
        bitsOfThings();
        weathersAndWeights();
        fieldsWantsAndLeft();
        daysToSpend();
        daysAndThingsToPack();
        noRoomForThings();
        noRoomForDays();
        behindAllAheadOfIt();
        firstOfSeveralFaulty();
        kindOneGoesAhead();
        packedToldAgain();
        spentWithoutLikeliest();
        spentWithLikeliestThen();
        withOneNothing();
        faultIsNotCounted();
        lettersAreNoMore();
        withoutFaultNoneTakenBack();
        withFaultTakenBackStays();
        statementsCounted();
        Due.close();
    }

    private static void is(String call, long got, long want) {
        Due.is(call, got, want);
    }

    private static int tell(HamperByWeather x, String text) {
        Due.feed(x, text);
        return x.hall();
    }

    /** Eight THINGS and eight DAYS, told by calls that leave the letters alone. */
    private static HamperByWeather full() {
        HamperByWeather x = things(8);
        for (int i = 0; i < 8; i++) {
            x.day(0);
        }
        return x;
    }

    private static HamperByWeather things(int n) {
        HamperByWeather x = new HamperByWeather();
        for (int i = 0; i < n; i++) {
            x.thing(i % 6, i);
        }
        return x;
    }

    /** "A HALL is told in letters, one by one (96 at most)": all 96 are a HALL, and the next is refused. */
    private static void mostLetters() {
        HamperByWeather x = full();
        x.wants(2, 63, 9);
        Due.feed(x, "s0;".repeat(32));
        is("96 letters", x.count(5), 96);
        is("the 97th", x.feed('s'), -6);
        is("96 letters", x.count(5), 96);
        is("96 letters are a HALL", x.hall(), 32);
        is("all of it comes", x.fieldOf(2, 1), 0);
        is("and work is done", x.count(2), 9);
    }

    /** "(the end, if something lacks)": what the 96th letter leaves open lacks at 96. */
    private static void cutOffByTheMost() {
        HamperByWeather x = full();
        x.weighs(1, 7);
        is("a head alone", tell(x, "w11;".repeat(20) + "s0;".repeat(5) + "w"), -1096);
        is("digits lack", tell(x, "s0;".repeat(31) + "d00"), -1096);
        is("a ; lacks", tell(x, "w11;".repeat(22) + "s0;" + "f3639"), -1096);
        is("what is behind the 96th is no letter", tell(x, "w11;".repeat(22) + "s0;" + "f3639;"), -1096);
        is("a wrong letter is the 96th", tell(x, "w11;".repeat(23) + "w11x"), -1095);
        is("weight as it was", x.weight(1), 7);
    }

    /** "STATEMENTS, each with ";" behind": any other letter there is a fault. */
    private static void semicolonBehindEach() {
        for (String form : FORMS) {
            int place = form.length() - 1;
            for (int letter = 0; letter <= 255; letter++) {
                HamperByWeather x = full();
                Due.feed(x, "w00;" + form.substring(0, place));
                x.feed(letter);
                int answer = x.hall();
                boolean faulty = answer == -1000 - 4 - place;
                is("behind " + form + " letter " + letter, faulty ? 1 : 0, letter == ';' ? 0 : 1);
            }
        }
    }

    /** "(a digit each)", "(3 digits, bits)", "(2 digits, bits)": 0 to 9, and no letter next to them. */
    private static void digitsInEachPlace() {
        for (String form : FORMS) {
            for (int place = 1; place < form.length() - 1; place++) {
                for (int letter = 0; letter <= 255; letter++) {
                    HamperByWeather x = full();
                    Due.feed(x, "w00;" + form.substring(0, place));
                    x.feed(letter);
                    boolean digit = letter >= '0' && letter <= '9';
                    is("in " + form + " at " + place + " letter " + letter, x.hall(), -1000 - 4 - place - (digit ? 1 : 0));
                }
            }
        }
    }

    /** "t", "d", "w", "f", "s", "p", and no other letter at the head of a STATEMENT. */
    private static void headInEachPlace() {
        for (int letter = 0; letter <= 255; letter++) {
            int goesOn = "tdwfsp".indexOf((char) letter) >= 0 ? 1 : 0;
            HamperByWeather x = full();
            x.feed(letter);
            is("head " + letter, x.hall(), -1000 - goesOn);
            Due.feed(x, "w00;");
            x.feed(letter);
            is("second head " + letter, x.hall(), -1004 - goesOn);
        }
    }

    /** "the place of the first letter with which no HALL can go on (the end, if something lacks)". */
    private static void theEndIfSomethingLacks() {
        for (String form : FORMS) {
            for (int length = 1; length < form.length(); length++) {
                String text = form.substring(0, length);
                is("alone " + text, tell(full(), text), -1000 - length);
                is("behind another " + text, tell(full(), "w00;" + text), -1000 - 4 - length);
                is("behind it one more " + text, tell(full(), text + "x;"), -1000 - length);
            }
            is("nothing lacks " + form, tell(full(), "w00;" + form), form.charAt(0) == 't' || form.charAt(0) == 'd' ? -2004 : 2);
        }
    }

    /** "At least one STATEMENT." */
    private static void atLeastOneStatement() {
        HamperByWeather x = new HamperByWeather();
        is("no letters", x.hall(), -1000);
        is("no STATEMENT", tell(x, ";"), -1000);
        is("one", tell(x, "w11;"), 1);
        is("none again", x.hall(), -1000);
    }

    /** "a number out of range" of "t": KINDS 0 to 5, FIGURES 0 to 9. */
    private static void kindsAndFigures() {
        for (int kind = 0; kind <= 9; kind++) {
            for (int figure = 0; figure <= 9; figure++) {
                HamperByWeather x = new HamperByWeather();
                is("t" + kind + figure, tell(x, "t" + kind + figure + ";"), kind <= 5 ? 1 : -2000);
                is("t" + kind + figure, x.thingOf(0, 0) * 10 + x.thingOf(0, 1), kind <= 5 ? kind * 10 + figure : -11);
            }
        }
    }

    /** "bits of no THINGS" of "d": with n THINGS below 2 to the power of n alone; "may be none". */
    private static void bitsOfThings() {
        for (int n = 0; n <= 8; n++) {
            int[] hampers = {0, (1 << n) - 1, 1 << n, (1 << n) + 1, 255, 256, 257, 512, 999};
            for (int hamper : hampers) {
                HamperByWeather x = things(n);
                String digits = String.format("%03d", hamper);
                is(n + " THINGS, d" + digits, tell(x, "d" + digits + ";"), hamper < 1 << n ? 1 : -2000);
                is(n + " THINGS, d" + digits, x.dayOf(0, 0), hamper < 1 << n ? hamper : -1);
            }
        }
    }

    /** "a number out of range" of "w": WEATHERS 0 to 5, WEIGHTS 0 to 9. */
    private static void weathersAndWeights() {
        for (int weather = 0; weather <= 9; weather++) {
            for (int v = 0; v <= 9; v++) {
                HamperByWeather x = new HamperByWeather();
                is("w" + weather + v, tell(x, "w" + weather + v + ";"), weather <= 5 ? 1 : -2000);
                is("w" + weather + v, x.weight(weather), weather <= 5 ? v : -1);
                is("w" + weather + v, x.count(3), weather <= 5 ? 5 + v : 6);
            }
        }
    }

    /** "a number out of range" of "f": FIELDS 0 to 3, WANTS 0 to 63, LEFT 0 to 9. */
    private static void fieldsWantsAndLeft() {
        for (int field = 0; field <= 9; field++) {
            int[] wants = {0, 1, 62, 63, 64, 65, 70, 99};
            for (int weathers : wants) {
                for (int left = 0; left <= 9; left += 3) {
                    HamperByWeather x = new HamperByWeather();
                    String text = "f" + field + String.format("%02d", weathers) + left + ";";
                    boolean well = field <= 3 && weathers <= 63;
                    is(text, tell(x, text), well ? 1 : -2000);
                    is(text, x.fieldOf(field & 3, 0), well ? weathers : 63);
                    is(text, x.fieldOf(field & 3, 1), well ? left : 0);
                }
            }
        }
    }

    /** "no such one" of "s": with n DAYS those below n alone. */
    private static void daysToSpend() {
        for (int n = 0; n <= 8; n++) {
            for (int day = 0; day <= 9; day++) {
                HamperByWeather x = new HamperByWeather();
                x.wants(0, 63, 1);
                for (int i = 0; i < n; i++) {
                    x.day(0);
                }
                is(n + " DAYS, s" + day, tell(x, "s" + day + ";"), day < n ? 1 : -2000);
                is(n + " DAYS, s" + day, x.count(2), day < n ? 1 : 0);
            }
        }
    }

    /** "no such one" of "p": a DAY and a THING that there are. */
    private static void daysAndThingsToPack() {
        int[] sizes = {0, 1, 3, 7, 8};
        for (int n : sizes) {
            for (int day = 0; day <= 9; day++) {
                for (int thing = 0; thing <= 9; thing++) {
                    HamperByWeather x = things(8 - n);
                    for (int i = 0; i < n; i++) {
                        x.day(0);
                    }
                    boolean well = day < n && thing < 8 - n;
                    String text = "p" + day + thing + ";";
                    is(n + " DAYS, " + text, tell(x, text), well ? 1 : -2000);
                    is(n + " DAYS, " + text, x.count(4), well ? 1 : 0);
                }
            }
        }
        HamperByWeather x = full();
        is("the last of both", tell(x, "p77;"), 1);
        is("the last of both", x.dayOf(7, 0), 128);
    }

    /** "no room" of "t": "8 at most". */
    private static void noRoomForThings() {
        HamperByWeather x = new HamperByWeather();
        is("eight", tell(x, EIGHT_THINGS), 8);
        is("one more", tell(x, "t00;"), -2000);
        is("the ninth at once", tell(new HamperByWeather(), EIGHT_THINGS + "t00;"), -2032);
        is("the eighth of seven", tell(things(7), "t00;t00;"), -2004);
        is("eight there are", x.count(0), 8);
    }

    /** "no room" of "d": "8 at most". */
    private static void noRoomForDays() {
        HamperByWeather x = new HamperByWeather();
        is("eight", tell(x, EIGHT_DAYS), 8);
        is("one more", tell(x, "d000;"), -2000);
        is("the ninth at once", tell(new HamperByWeather(), EIGHT_DAYS + "d000;"), -2040);
        is("eight there are", x.count(1), 8);
    }

    /** "that, behind all ahead of it in the text, is not as it must be": what is told ahead is there, what behind is not. */
    private static void behindAllAheadOfIt() {
        String[] wells = {"t00;d001;", "d000;s0;", "d000;t00;p00;", "t00;t00;d003;", "t00;t00;d000;p01;s0;"};
        String[] faulty = {"d001;t00;", "s0;d000;", "t00;p00;d000;", "t00;d003;t00;", "d000;t00;p01;t00;"};
        int[] places = {0, 0, 4, 4, 9};
        for (int i = 0; i < wells.length; i++) {
            is("told ahead: " + wells[i], tell(new HamperByWeather(), wells[i]), wells[i].split(";").length);
            is("told behind: " + faulty[i], tell(new HamperByWeather(), faulty[i]), -2000 - places[i]);
        }
    }

    /** "the first letter of the first STATEMENT that .. is not as it must be". */
    private static void firstOfSeveralFaulty() {
        is("the first of three", tell(new HamperByWeather(), "w60;t60;s0;"), -2000);
        is("the second of three", tell(new HamperByWeather(), "w50;t60;s0;"), -2004);
        is("the third of three", tell(new HamperByWeather(), "w50;t50;s0;"), -2008);
        is("behind forms of all lengths", tell(new HamperByWeather(), "t00;d001;w11;f0001;s0;p00;f4000;"), -2000 - 26);
        is("the last place there is", tell(full(), "s0;".repeat(31) + "s8;"), -2093);
    }

    /** "kind 1 ..; else kind 2": a kind 1 at the end goes ahead of a kind 2 at the start. */
    private static void kindOneGoesAhead() {
        is("lacks at the end", tell(new HamperByWeather(), "w60;w5"), -1006);
        is("a wrong letter at the end", tell(new HamperByWeather(), "w60;t00;x"), -1008);
        is("kind 2 alone", tell(new HamperByWeather(), "w60;t00;"), -2000);
    }

    /** "packed, or, told again, not". */
    private static void packedToldAgain() {
        HamperByWeather x = things(2);
        x.day(2);
        is("once", tell(x, "p00;"), 1);
        is("packed", x.dayOf(0, 0), 3);
        is("again", tell(x, "p00;"), 1);
        is("not any more", x.dayOf(0, 0), 2);
        is("twice at once", tell(x, "p00;p00;"), 2);
        is("as before", x.dayOf(0, 0), 2);
        is("thrice, and one that was packed", tell(x, "p00;p01;p00;p00;"), 4);
        is("the other", x.dayOf(0, 0), 1);
    }

    /** "it is SPENT with its LIKELIEST (-9: nothing)". */
    private static void spentWithoutLikeliest() {
        HamperByWeather x = new HamperByWeather();
        is("could be none", tell(x, "t10;t11;d003;f0639;s0;s0;"), 6);
        is("nothing done", x.count(2) * 10 + x.fieldOf(0, 1), 9);
        x = new HamperByWeather();
        is("of no WEIGHT", tell(x, "w00;w10;w20;w30;w40;w50;d000;f0639;s0;"), 9);
        is("nothing done", x.count(2) * 10 + x.fieldOf(0, 1), 9);
    }

    /** "behind all ahead of it": the LIKELIEST and FIELDS as they are then. */
    private static void spentWithLikeliestThen() {
        HamperByWeather x = new HamperByWeather();
        is("likeliest changes in the text", tell(x, "d000;f0011;f1322;s0;w59;s0;s0;"), 7);
        is("field 0 by WEATHER 0", x.fieldOf(0, 1), 0);
        is("field 1 by WEATHER 5 twice", x.fieldOf(1, 1), 0);
        is("done", x.count(2), 3);
        is("none left, nothing", tell(x, "s0;"), 1);
        is("done", x.count(2), 3);
    }

    /** "Without FAULT all of it comes, with one nothing." */
    private static void withOneNothing() {
        String[] ends = {"t60;", "d255;", "w60;", "f0640;", "s9;", "p09;", "x", "t0", "s0"};
        for (String end : ends) {
            HamperByWeather x = changed();
            HamperByWeather twin = changed();
            int answer = tell(x, "t55;d000;w49;f3077;s1;p01;" + end);
            is("a fault by " + end, answer <= -1000 ? 1 : 0, 1);
            List<Long> all = Held.allOf(x);
            List<Long> twins = Held.allOf(twin);
            for (int i = 0; i < all.size(); i++) {
                is("nothing comes, look " + i + ", " + end, all.get(i), twins.get(i));
            }
        }
    }

    private static HamperByWeather changed() {
        HamperByWeather x = things(3);
        x.day(1);
        x.day(6);
        x.image();
        x.wants(2, 63, 5);
        x.spends(0, 9);
        x.packs(1, 0);
        x.weighs(3, 4);
        x.row(2);
        return x;
    }

    /** Promise 3: "the FAULT (nothing is counted)". */
    private static void faultIsNotCounted() {
        String[] faulty = {"", "x", "t6", "t60;", "d001;", "w60;", "f0640;", "f4000;", "s0;", "p00;"};
        HamperByWeather x = new HamperByWeather();
        for (String text : faulty) {
            is("a fault: " + text, tell(x, text) <= -1000 ? 1 : 0, 1);
            is("nothing is counted: " + text, Held.refusals(x), 0);
        }
    }

    /** Promise 3: "The letters, which are no more then (with a FAULT neither)". */
    private static void lettersAreNoMore() {
        String[] texts = {"w11;", "x", "w1", "w60;", "w11;w60;"};
        for (String text : texts) {
            HamperByWeather x = new HamperByWeather();
            tell(x, text);
            is("no letters behind " + text, x.count(5), 0);
            is("empty behind " + text, x.hall(), -1000);
            is("a new one behind " + text, tell(x, "w29;"), 1);
            is("the first letter behind " + text, x.feed('w'), 1);
        }
    }

    /** III: "a HALL without FAULT .. leave none". */
    private static void withoutFaultNoneTakenBack() {
        HamperByWeather x = changed();
        is("four", x.count(7), 4);
        is("a HALL", tell(x, "w33;"), 1);
        is("none", x.count(7), 0);
        is("none", x.back(), -3);
        is("what was changed ahead stays", x.fieldOf(2, 1), 4);
        is("its own too", x.weight(3), 3);
    }

    /** III: "(.. a HALL without FAULT .. leave none)": with a FAULT they stay. */
    private static void withFaultTakenBackStays() {
        String[] faulty = {"", "x", "w33;w", "w33;w60;"};
        for (String text : faulty) {
            HamperByWeather x = changed();
            tell(x, text);
            is("all stay: " + text, x.count(7), 4);
            is("taken back: " + text, x.back(), 3);
            is("as it was: " + text, x.weight(3), 1);
        }
    }

    /** Promise 3: "how many STATEMENTS", from 1 to as many as 96 letters hold. */
    private static void statementsCounted() {
        for (int n = 1; n <= 32; n++) {
            HamperByWeather x = full();
            is(n + " STATEMENTS", tell(x, "s7;".repeat(n)), n);
        }
    }
}
