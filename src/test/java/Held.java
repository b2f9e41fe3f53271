import java.util.ArrayList;
import java.util.List;

/** What an object holds, as its answers tell it. */
final class Held {
    private Held() {
    }

    static int refusals(HamperByWeather x) {
        int all = 0;
        for (int what = 11; what <= 16; what++) {
            all += x.count(what);
        }
        return all;
    }

    /** All that an object holds, the hidden parts by calls that bring them out; some 200 calls. */
    static List<Long> allOf(HamperByWeather x) {
        List<Long> all = new ArrayList<>();
        look(x, all);
        int back = x.count(7);
        for (int i = 0; i < back; i++) {
            all.add((long) x.back());
        }
        look(x, all);
        all.add((long) x.whatKind(0, 0));
        all.add((long) x.whatKind(0, 1));
        all.add((long) x.judge());
        all.add((long) x.hall());
        look(x, all);
        all.add((long) x.restore());
        look(x, all);
        return all;
    }

    private static void look(HamperByWeather x, List<Long> all) {
        for (int what = 0; what <= 7; what++) {
            all.add((long) x.count(what));
        }
        for (int w = 0; w < 6; w++) {
            all.add((long) x.weight(w));
        }
        for (int f = 0; f < 4; f++) {
            all.add((long) x.fieldOf(f, 0) * 100 + x.fieldOf(f, 1));
        }
        int things = x.count(0);
        for (int t = 0; t < things; t++) {
            all.add((long) x.thingOf(t, 0) * 100 + x.thingOf(t, 1));
        }
        int days = x.count(1);
        for (int d = 0; d < days; d++) {
            all.add((long) x.dayOf(d, 0));
        }
    }
}
