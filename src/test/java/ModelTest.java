/** Runs of drawn calls, each answer of the class held against that of the model. */
public final class ModelTest {
    private static final String[] CHANGES = {"thing", "day", "weighs", "weighs", "weighs", "packs", "packs", "packs",
        "wants", "wants", "wants", "spends", "spends", "back", "back", "row", "row", "judge", "clear", "image", "restore",
        "hall", "hall"};
    private static final String[] ASKS = {"thingOf", "dayOf", "dayOf", "fieldOf", "weight", "odds", "looks", "pack",
        "rope", "wanted", "apart", "tell", "codes", "smallest", "eggAndRope", "gotIn", "order", "plan", "spare",
        "whatKind", "worth", "bet", "wrong", "lightest", "swap", "often", "sure", "mean", "need", "drop", "lots",
        "count"};

    private static long seed = 20261118L;
    private static int asked = 0;
    private static int wrong = 0;

    public static void main(String[] args) {
        for (int run = 0; run < 400; run++) {
            run(run);
        }
        System.out.println(asked + " answers, " + wrong + " not as the model's");
        if (wrong != 0) {
            System.exit(1);
        }
    }

    private static int draw(int below) {
        seed = seed * 6364136223846793005L + 1442695040888963407L;
        return (int) ((seed >>> 33) % below);
    }

    private static void run(int run) {
        HamperByWeather x = new HamperByWeather();
        Model model = new Model();
        int things = draw(9);
        int days = draw(9);
        int calls = 512;
        for (int i = 0; i < things; i++) {
            calls -= both(run, x, model, "thing", draw(6), draw(10), 0);
        }
        for (int i = 0; i < days; i++) {
            calls -= both(run, x, model, "day", draw(1 << things) & (draw(3) > 0 ? draw(256) : 255), 0, 0);
        }
        while (calls > 100) {
            String name = draw(3) == 0 ? CHANGES[draw(CHANGES.length)] : ASKS[draw(ASKS.length)];
            if (name.equals("hall")) {
                calls -= feedHall(run, x, model);
            }
            int wide = draw(12);
            int a = argument(name, 0, wide == 0);
            int b = argument(name, 1, wide == 1);
            int c = argument(name, 2, wide == 2);
            calls -= both(run, x, model, name, a, b, c);
        }
    }

    /** Mostly of a size that the call takes, at times anything. */
    private static int argument(String name, int place, boolean wide) {
        if (wide) {
            int[] any = {-1, -2, 6, 7, 8, 9, 10, 64, 99, 100, 256, Integer.MAX_VALUE, Integer.MIN_VALUE};
            return any[draw(any.length)];
        }
        String key = name + place;
        switch (key) {
            case "thing0": case "weight0": case "weighs0": case "odds1": case "pack0": return draw(6);
            case "thing1": case "weighs1": case "wants2": return draw(10);
            case "day0": return draw(256);
            case "wants1": case "smallest0": return draw(64);
            case "fieldOf0": case "wants0": case "wanted0": case "row0": return draw(4);
            case "spends1": return draw(2) == 0 ? 9 : draw(6);
            case "thingOf1": case "dayOf1": return draw(5);
            case "need0": return draw(3);
            case "order0": return 1 + draw(8);
            case "order1": return draw(9) - 1;
            case "wrong1": return 2 + draw(19);
            case "lots0": return 1 + draw(20);
            case "lots1": return (int) seed;
            case "count0": return draw(19) - 1;
            default:
                return key.matches("(packs|dayOf|looks|bet|odds|worth|wrong|spends|thingOf|whatKind)[01]")
                    && !key.matches("(worth|whatKind)1") ? draw(8) : draw(2);
        }
    }

    private static int feedHall(int run, HamperByWeather x, Model model) {
        StringBuilder text = new StringBuilder();
        int statements = draw(5);
        for (int i = 0; i <= statements; i++) {
            String digit = String.valueOf(draw(10));
            String small = String.valueOf(draw(6));
            String[] all = {"t" + small + digit, "d0" + draw(3) + digit, "w" + small + digit,
                "f" + draw(4) + draw(7) + draw(4) + digit, "s" + small, "p" + draw(5) + draw(5)};
            text.append(all[draw(all.length)]).append(';');
        }
        if (draw(5) == 0) {
            text.setCharAt(draw(text.length()), "tdwfsp;09x".charAt(draw(10)));
        }
        if (draw(9) == 0) {
            text.setLength(draw(text.length() + 1));
        }
        for (int i = 0; i < text.length(); i++) {
            both(run, x, model, "feed", text.charAt(i), 0, 0);
        }
        return text.length();
    }

    private static int both(int run, HamperByWeather x, Model model, String name, int a, int b, int c) {
        long due = model.call(name, a, b, c);
        long got = call(x, name, a, b, c);
        asked++;
        if (got != due) {
            wrong++;
            if (wrong < 30) {
                System.out.println("run " + run + ": " + name + "(" + a + ", " + b + ", " + c + ") answered " + got
                    + ", the model's is " + due);
            }
        }
        return 1;
    }

    private static long call(HamperByWeather x, String name, int a, int b, int c) {
        switch (name) {
            case "feed": return x.feed(a);
            case "hall": return x.hall();
            case "thingOf": return x.thingOf(a, b);
            case "dayOf": return x.dayOf(a, b);
            case "fieldOf": return x.fieldOf(a, b);
            case "weight": return x.weight(a);
            case "thing": return x.thing(a, b);
            case "day": return x.day(a);
            case "weighs": return x.weighs(a, b);
            case "packs": return x.packs(a, b);
            case "wants": return x.wants(a, b, c);
            case "spends": return x.spends(a, b);
            case "back": return x.back();
            case "odds": return x.odds(a, b, c);
            case "looks": return x.looks(a);
            case "pack": return x.pack(a, b);
            case "rope": return x.rope();
            case "wanted": return x.wanted(a);
            case "apart": return x.apart();
            case "tell": return x.tell();
            case "codes": return x.codes(a);
            case "smallest": return x.smallest(a);
            case "eggAndRope": return x.eggAndRope();
            case "gotIn": return x.gotIn(a);
            case "order": return x.order(a, b);
            case "plan": return x.plan();
            case "spare": return x.spare();
            case "whatKind": return x.whatKind(a, b);
            case "worth": return x.worth(a, b);
            case "bet": return x.bet(a, b);
            case "wrong": return x.wrong(a, b, c);
            case "lightest": return x.lightest(a);
            case "swap": return x.swap();
            case "often": return x.often(a);
            case "sure": return x.sure(a);
            case "mean": return x.mean(a);
            case "need": return x.need(a);
            case "drop": return x.drop();
            case "row": return x.row(a);
            case "judge": return x.judge();
            case "clear": return x.clear();
            case "lots": return x.lots(a, b, c);
            case "image": return x.image();
            case "restore": return x.restore();
            default: return x.count(a);
        }
    }
}
