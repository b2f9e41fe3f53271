import java.math.BigInteger;
import java.util.ArrayDeque;
import java.util.ArrayList;
import java.util.Arrays;
import java.util.Deque;
import java.util.HashSet;
import java.util.List;
import java.util.Set;
import java.util.TreeMap;
import java.util.TreeSet;
import java.util.function.IntPredicate;
import java.util.regex.Matcher;
import java.util.regex.Pattern;

/** The document once more, by brute force and copies, to hold the class against. */
final class Model {
    /** A call that is refused. */
    private static final class Refused extends RuntimeException {
        final int number;

        Refused(int number) {
            super(null, null, false, false);
            this.number = number;
        }
    }

    private static class Thing {
        final int figure;

        Thing(int figure) {
            this.figure = figure;
        }

        static Thing of(int kind, int figure) {
            switch (kind) {
                case 0: return new Thing(figure);
                case 1: return new Dish(figure);
                case 2: return new Coat(figure);
                case 3: return new Rope(figure);
                case 4: return new Trifle(figure);
                default: return new Sky(figure);
            }
        }

        int kind() {
            return 0;
        }

        boolean goes(int w) {
            return w != figure % 6;
        }

        int heavy() {
            return figure + 1;
        }

        int dear() {
            return 1;
        }

        final TreeSet<Integer> weathers() {
            TreeSet<Integer> all = new TreeSet<>();
            for (int w = 0; w < 6; w++) {
                if (goes(w)) {
                    all.add(w);
                }
            }
            return all;
        }
    }

    private static class Dish extends Thing {
        Dish(int figure) {
            super(figure);
        }

        int kind() {
            return 1;
        }

        boolean goes(int w) {
            return (figure + w) % 2 == 0;
        }

        int heavy() {
            return super.heavy() + 2;
        }

        int dear() {
            return figure;
        }
    }

    private static class Coat extends Thing {
        Coat(int figure) {
            super(figure);
        }

        int kind() {
            return 2;
        }

        boolean goes(int w) {
            return List.of(1, 2, 5).contains(w);
        }

        int heavy() {
            return 4;
        }

        int dear() {
            return super.dear() + 3;
        }
    }

    private static final class Rope extends Coat {
        Rope(int figure) {
            super(figure);
        }

        int kind() {
            return 3;
        }

        boolean goes(int w) {
            return super.goes(w) || figure % 6 == w;
        }

        int heavy() {
            return super.heavy() / 2;
        }

        int dear() {
            return Math.max(super.dear() - figure / 3, 0);
        }
    }

    private static final class Trifle extends Dish {
        Trifle(int figure) {
            super(figure);
        }

        int kind() {
            return 4;
        }

        boolean goes(int w) {
            return w != 1 && super.goes(w);
        }

        int heavy() {
            return super.heavy() * 2;
        }

        int dear() {
            return super.dear() + 5;
        }
    }

    private static final class Sky extends Thing {
        Sky(int figure) {
            super(figure);
        }

        int kind() {
            return 5;
        }

        boolean goes(int w) {
            return true;
        }

        int heavy() {
            return 0;
        }

        int dear() {
            return 9;
        }
    }

    private static final class World {
        int[] weights = {1, 1, 1, 1, 1, 1};
        List<Thing> things = new ArrayList<>();
        List<Integer> days = new ArrayList<>();
        int[] wants = {63, 63, 63, 63};
        int[] left = new int[4];
        int done = 0;

        World copy() {
            World c = new World();
            c.weights = weights.clone();
            c.things = new ArrayList<>(things);
            c.days = new ArrayList<>(days);
            c.wants = wants.clone();
            c.left = left.clone();
            c.done = done;
            return c;
        }

        TreeSet<Integer> could(int hamper) {
            TreeSet<Integer> all = new TreeSet<>(List.of(0, 1, 2, 3, 4, 5));
            for (int t = 0; t < things.size(); t++) {
                if ((hamper & 1 << t) != 0) {
                    all.retainAll(things.get(t).weathers());
                }
            }
            return all;
        }

        int likeliest(int hamper) {
            int best = -9;
            for (int w : could(hamper).descendingSet()) {
                if (weights[w] > 0 && (best < 0 || weights[w] >= weights[best])) {
                    best = w;
                }
            }
            return best;
        }

        int spend(int w) {
            for (int f = 0; f < 4; f++) {
                if (w >= 0 && left[f] > 0 && (wants[f] & 1 << w) != 0) {
                    left[f]--;
                    done = Math.min(999, done + 1);
                    return f;
                }
            }
            return -9;
        }

        int spendAll(List<Integer> order) {
            int work = 0;
            for (int d : order) {
                if (spend(likeliest(days.get(d))) >= 0) {
                    work++;
                }
            }
            return work;
        }

        List<Integer> dayNumbers() {
            List<Integer> all = new ArrayList<>();
            for (int d = 0; d < days.size(); d++) {
                all.add(d);
            }
            return all;
        }

        int heavy(int hamper) {
            int sum = 0;
            for (int t = 0; t < things.size(); t++) {
                sum += (hamper >> t & 1) * things.get(t).heavy();
            }
            return sum;
        }

        int dear(int hamper) {
            int sum = 0;
            for (int t = 0; t < things.size(); t++) {
                sum += (hamper >> t & 1) * things.get(t).dear();
            }
            return sum;
        }

        int sum(Set<Integer> weathers) {
            int sum = 0;
            for (int w : weathers) {
                sum += weights[w];
            }
            return sum;
        }

        int emptied() {
            return bits(4, f -> left[f] == 0);
        }
    }

    private World now = new World();
    private World image = null;
    private final Deque<World> undo = new ArrayDeque<>();
    private StringBuilder letters = new StringBuilder();
    private final List<Integer> row = new ArrayList<>();
    private final TreeMap<Integer, Integer> refusals = new TreeMap<>();

    private static int bits(int n, IntPredicate in) {
        int bits = 0;
        for (int i = 0; i < n; i++) {
            if (in.test(i)) {
                bits |= 1 << i;
            }
        }
        return bits;
    }

    private static void refuse(boolean when, int number) {
        if (when) {
            throw new Refused(number);
        }
    }

    private void knowDay(int day) {
        refuse(day < 0 || day >= now.days.size(), -1);
    }

    private void knowThing(int thing) {
        refuse(thing < 0 || thing >= now.things.size(), -1);
    }

    private static void knowField(int field) {
        refuse(field < 0 || field > 3, -1);
    }

    private static void knowWeather(int weather) {
        refuse(weather < 0 || weather > 5, -1);
    }

    private static void knowWhat(int what, int most) {
        refuse(what < 0 || what > most, -2);
    }

    private static long part(BigInteger above, BigInteger below, int part) {
        if (above.signum() <= 0 || below.signum() <= 0) {
            return part;
        }
        BigInteger gcd = above.gcd(below);
        return (part == 0 ? above : below).divide(gcd).longValueExact();
    }

    private static long part(long above, long below, int part) {
        return part(BigInteger.valueOf(above), BigInteger.valueOf(below), part);
    }

    private void remember() {
        undo.addLast(now.copy());
        if (undo.size() > 8) {
            undo.removeFirst();
        }
    }

    /** The answer of a call, by its name. */
    long call(String name, int a, int b, int c) {
        try {
            return answer(name, a, b, c);
        } catch (Refused refused) {
            refusals.merge(refused.number, 1, Integer::sum);
            boolean isLong = name.equals("odds") || name.equals("worth") || name.equals("wrong") || name.equals("mean");
            return isLong ? 4000000000000000000L - refused.number : refused.number;
        }
    }

    private long answer(String name, int a, int b, int c) {
        switch (name) {
            case "feed": return feed(a);
            case "hall": return hall();
            case "thingOf": return thingOf(a, b);
            case "dayOf": return dayOf(a, b);
            case "fieldOf":
                knowField(a);
                knowWhat(b, 1);
                return b == 0 ? now.wants[a] : now.left[a];
            case "weight":
                knowWeather(a);
                return now.weights[a];
            case "thing":
                newThing(now, a, b);
                undo.clear();
                return now.things.size() - 1;
            case "day":
                newDay(now, a);
                undo.clear();
                return now.days.size() - 1;
            case "weighs": return weighs(a, b);
            case "packs": return packs(a, b);
            case "wants": return wants(a, b, c);
            case "spends": return spends(a, b);
            case "back":
                refuse(undo.isEmpty(), -3);
                now = undo.removeLast();
                return undo.size();
            case "row":
                refuse(a < 0, -4);
                refuse(a > 99 || row.size() == 12, -6);
                row.add(a);
                return row.size();
            case "judge": return judge();
            case "clear":
                int had = row.size();
                row.clear();
                return had;
            case "image":
                image = now.copy();
                return now.done;
            case "restore":
                refuse(image == null, -3);
                now = image.copy();
                undo.clear();
                return now.done;
            case "count": return count(a);
            default: return asked(name, a, b, c);
        }
    }

    private long asked(String name, int a, int b, int c) {
        switch (name) {
            case "odds": return odds(a, b, c);
            case "looks":
                knowDay(a);
                return fewest(now.days.get(a), now.could(now.days.get(a)));
            case "pack": return pack(a, b);
            case "rope": return rope();
            case "wanted":
                knowField(a);
                return bits(now.days.size(), d -> now.could(now.days.get(d)).stream()
                    .noneMatch(w -> (now.wants[a] & 1 << w) != 0));
            case "apart": return apart();
            case "tell": return tell();
            case "codes":
                knowWhat(a, 1);
                Set<Set<Integer>> codes = new HashSet<>();
                for (int set = 0; set < 1 << now.things.size(); set++) {
                    codes.add(now.could(set));
                }
                return a == 0 ? codes.size() : 64 - codes.size();
            case "smallest":
                refuse(a < 1, -4);
                refuse(a > 63, -6);
                TreeSet<Integer> told = new TreeSet<>();
                for (int w = 0; w < 6; w++) {
                    if ((a & 1 << w) != 0) {
                        told.add(w);
                    }
                }
                return fewest((1 << now.things.size()) - 1, told);
            case "eggAndRope": return eggAndRope();
            case "gotIn":
                knowWhat(a, 1);
                World spent = now.copy();
                int work = spent.spendAll(now.dayNumbers());
                return a == 0 ? work : spent.emptied();
            case "order": return order(a, b);
            case "plan": return plan(now.copy(), 0);
            case "spare": return spare();
            case "whatKind": return whatKind(a, b);
            case "worth": return worth(a, b);
            case "bet": return bet(a, b);
            case "wrong": return wrong(a, b, c);
            case "lightest": return lightest(a);
            case "swap": return swap();
            case "often": return often(a);
            case "sure":
                knowWhat(a, 1);
                return bits(now.days.size(), d -> now.could(now.days.get(d)).size() == 1 - a);
            case "mean":
                knowWhat(a, 1);
                return part(now.days.stream().mapToInt(now::heavy).sum(), now.days.size(), a);
            case "need":
                knowWhat(a, 2);
                int most = Arrays.stream(now.left).max().getAsInt();
                int field = 0;
                while (now.left[field] < most) {
                    field++;
                }
                return a == 0 ? field : a == 1 ? most : Arrays.stream(now.left).sum();
            case "drop": return drop();
            case "lots": return lots(a, b, c);
            default: throw new IllegalStateException(name);
        }
    }

    private long feed(int letter) {
        refuse(letter < 0, -4);
        refuse(letter > 255, -6);
        refuse(letters.length() == 96, -6);
        letters.append((char) letter);
        return letters.length();
    }

    private static final String HALL = "(t[0-9]{2};|d[0-9]{3};|w[0-9]{2};|f[0-9]{4};|s[0-9];|p[0-9]{2};)+";

    /** The first place behind which the text so far is no beginning of a hall. */
    private static int firstUnfit(String text) {
        Pattern pattern = Pattern.compile(HALL);
        for (int n = 1; n <= text.length(); n++) {
            Matcher m = pattern.matcher(text.substring(0, n));
            if (!m.matches() && !m.hitEnd()) {
                return n - 1;
            }
        }
        return pattern.matcher(text).matches() ? -1 : text.length();
    }

    private long hall() {
        String text = letters.toString();
        letters = new StringBuilder();
        int unfit = firstUnfit(text);
        if (unfit >= 0) {
            return -1000 - unfit;
        }
        World world = now.copy();
        int at = 0;
        int statements = 0;
        for (String statement : text.split(";")) {
            try {
                come(world, statement);
            } catch (Refused refused) {
                return -2000 - at;
            }
            at += statement.length() + 1;
            statements++;
        }
        now = world;
        undo.clear();
        return statements;
    }

    private static void come(World world, String statement) {
        int first = statement.charAt(1) - '0';
        int rest = statement.length() > 2 ? Integer.parseInt(statement.substring(2)) : 0;
        switch (statement.charAt(0)) {
            case 't':
                newThing(world, first, rest);
                break;
            case 'd':
                newDay(world, Integer.parseInt(statement.substring(1)));
                break;
            case 'w':
                knowWeather(first);
                world.weights[first] = rest;
                break;
            case 'f':
                knowField(first);
                refuse(rest / 10 > 63, -6);
                world.wants[first] = rest / 10;
                world.left[first] = rest % 10;
                break;
            case 's':
                refuse(first >= world.days.size(), -1);
                world.spend(world.likeliest(world.days.get(first)));
                break;
            default:
                refuse(first >= world.days.size() || rest >= world.things.size(), -1);
                world.days.set(first, world.days.get(first) ^ 1 << rest);
                break;
        }
    }

    private static void newThing(World world, int kind, int figure) {
        refuse(kind < 0 || kind > 5, -2);
        refuse(figure < 0, -4);
        refuse(figure > 9 || world.things.size() == 8, -6);
        world.things.add(Thing.of(kind, figure));
    }

    private static void newDay(World world, int hamper) {
        refuse(hamper < 0, -4);
        refuse(hamper >= 1 << world.things.size() || world.days.size() == 8, -6);
        world.days.add(hamper);
    }

    private long thingOf(int thing, int what) {
        knowThing(thing);
        knowWhat(what, 4);
        Thing t = now.things.get(thing);
        int[] all = {t.kind(), t.figure, t.heavy(), t.dear(), bits(6, t::goes)};
        return all[what];
    }

    private long dayOf(int day, int what) {
        knowDay(day);
        knowWhat(what, 4);
        int hamper = now.days.get(day);
        int[] all = {hamper, bits(6, now.could(hamper)::contains), now.likeliest(hamper), now.heavy(hamper),
            now.dear(hamper)};
        return all[what];
    }

    private long weighs(int weather, int v) {
        knowWeather(weather);
        refuse(v < 0, -4);
        refuse(v > 9, -6);
        remember();
        int was = now.weights[weather];
        now.weights[weather] = v;
        return was;
    }

    private long packs(int day, int thing) {
        knowDay(day);
        knowThing(thing);
        remember();
        now.days.set(day, now.days.get(day) ^ 1 << thing);
        return now.days.get(day) >> thing & 1;
    }

    private long wants(int field, int weathers, int left) {
        knowField(field);
        refuse(weathers < 0 || left < 0, -4);
        refuse(weathers > 63 || left > 9, -6);
        remember();
        int was = now.left[field];
        now.wants[field] = weathers;
        now.left[field] = left;
        return was;
    }

    private long spends(int day, int weather) {
        knowDay(day);
        refuse((weather < 0 || weather > 5) && weather != 9, -1);
        remember();
        return now.spend(weather == 9 ? now.likeliest(now.days.get(day)) : weather);
    }

    private long judge() {
        int first = -9;
        for (int i = 0; i < row.size() && first < 0; i++) {
            int likeliest = i < now.days.size() ? now.likeliest(now.days.get(i)) : -1;
            if (row.get(i) != (likeliest == -9 ? 9 : likeliest)) {
                first = i;
            }
        }
        row.clear();
        return first;
    }

    private long count(int what) {
        switch (what) {
            case 0: return now.things.size();
            case 1: return now.days.size();
            case 2: return now.done;
            case 3: return Arrays.stream(now.weights).sum();
            case 4: return now.days.stream().mapToInt(Integer::bitCount).sum();
            case 5: return letters.length();
            case 6: return row.size();
            case 7: return undo.size();
            default: return what > 10 && what < 17 ? refusals.getOrDefault(10 - what, 0) : -9;
        }
    }

    private long odds(int day, int weather, int part) {
        knowDay(day);
        knowWeather(weather);
        knowWhat(part, 1);
        Set<Integer> could = now.could(now.days.get(day));
        return part(could.contains(weather) ? now.weights[weather] : 0, now.sum(could), part);
    }

    private long fewest(int among, Set<Integer> weathers) {
        for (int n = 0; n <= 8; n++) {
            for (int set = 0; set < 256; set++) {
                if (Integer.bitCount(set) == n && (set | among) == among && now.could(set).equals(weathers)) {
                    return set;
                }
            }
        }
        return -9;
    }

    private long pack(int weather, int what) {
        knowWeather(weather);
        knowWhat(what, 1);
        int best = -9;
        for (int set = (1 << now.things.size()) - 1; set >= 0; set--) {
            if (now.could(set).equals(Set.of(weather))) {
                boolean better = best < 0
                    || (what == 0 ? now.heavy(set) <= now.heavy(best) : now.dear(set) >= now.dear(best));
                best = better ? set : best;
            }
        }
        return best;
    }

    private long rope() {
        for (int d = 0; d < now.days.size(); d++) {
            for (int t = 0; t < now.things.size(); t++) {
                if ((now.days.get(d) & 1 << t) != 0 && now.things.get(t) instanceof Rope) {
                    return d;
                }
            }
        }
        return -9;
    }

    private long apart() {
        int twos = 0;
        for (int b = 0; b < now.days.size(); b++) {
            for (int a = 0; a < b; a++) {
                Set<Integer> both = now.could(now.days.get(a));
                both.retainAll(now.could(now.days.get(b)));
                twos += both.isEmpty() ? 1 : 0;
            }
        }
        return twos;
    }

    private long tell() {
        TreeMap<Integer, Integer> byApart = new TreeMap<>();
        for (int t = 0; t < now.things.size(); t++) {
            int with = now.sum(now.things.get(t).weathers());
            byApart.putIfAbsent(Math.abs(2 * with - Arrays.stream(now.weights).sum()), t);
        }
        return byApart.isEmpty() ? -9 : byApart.firstEntry().getValue();
    }

    private long eggAndRope() {
        TreeMap<Integer, Integer> byBoth = new TreeMap<>();
        for (int a = 0; a < now.things.size(); a++) {
            for (int b = a + 1; b < now.things.size(); b++) {
                Set<Integer> both = now.things.get(a).weathers();
                both.retainAll(now.things.get(b).weathers());
                if (!both.isEmpty()) {
                    byBoth.putIfAbsent(both.size(), 10 * a + b);
                }
            }
        }
        return byBoth.isEmpty() ? -9 : byBoth.firstEntry().getValue();
    }

    private static void orders(List<Integer> begun, List<Integer> rest, List<List<Integer>> all) {
        if (rest.isEmpty()) {
            all.add(new ArrayList<>(begun));
        }
        for (int i = 0; i < rest.size(); i++) {
            Integer d = rest.remove(i);
            begun.add(d);
            orders(begun, rest, all);
            begun.remove(begun.size() - 1);
            rest.add(i, d);
        }
    }

    private long order(int k, int i) {
        refuse(k < 1 || i < -1, -4);
        refuse(k > 8, -6);
        refuse(now.days.size() > 7, -3);
        List<List<Integer>> all = new ArrayList<>();
        orders(new ArrayList<>(), now.dayNumbers(), all);
        int most = -1;
        List<Integer> best = null;
        int[] likeliest = new int[8];
        for (int d = 0; d < now.days.size(); d++) {
            likeliest[d] = now.likeliest(now.days.get(d));
        }
        World world = now.copy();
        for (List<Integer> one : all) {
            System.arraycopy(now.left, 0, world.left, 0, 4);
            int work = 0;
            for (int d : one.subList(0, Math.min(k, one.size()))) {
                work += world.spend(likeliest[d]) >= 0 ? 1 : 0;
            }
            if (work > most) {
                most = work;
                best = one;
            }
        }
        return i == -1 ? most : i < best.size() ? best.get(i) : -9;
    }

    private static int plan(World world, int day) {
        if (day == world.days.size()) {
            return 0;
        }
        int most = plan(world, day + 1);
        int likeliest = world.likeliest(world.days.get(day));
        for (int f = 0; f < 4; f++) {
            if (likeliest >= 0 && world.left[f] > 0 && (world.wants[f] & 1 << likeliest) != 0) {
                world.left[f]--;
                most = Math.max(most, 1 + plan(world, day + 1));
                world.left[f]++;
            }
        }
        return most;
    }

    private long spare() {
        int all = now.copy().spendAll(now.dayNumbers());
        return bits(now.days.size(), d -> {
            List<Integer> others = now.dayNumbers();
            others.remove(Integer.valueOf(d));
            return now.copy().spendAll(others) == all;
        });
    }

    private boolean isSo(Thing thing) {
        for (int w = 0; w < row.size(); w++) {
            if (row.get(w) < 2 && thing.goes(w) != (row.get(w) == 1)) {
                return false;
            }
        }
        return true;
    }

    private long whatKind(int thing, int what) {
        knowThing(thing);
        knowWhat(what, 1);
        refuse(row.size() > 6 || row.stream().anyMatch(v -> v > 2), -3);
        Thing t = now.things.get(thing);
        return what == 0 ? bits(6, kind -> isSo(Thing.of(kind, t.figure)))
            : bits(10, figure -> isSo(Thing.of(t.kind(), figure)));
    }

    private long worth(int day, int part) {
        knowDay(day);
        knowWhat(part, 1);
        int hamper = now.days.get(day);
        int likeliest = now.likeliest(hamper);
        if (likeliest < 0) {
            return part;
        }
        int of = now.sum(now.could(hamper));
        int ofAll = Arrays.stream(now.weights).sum();
        int greatest = Arrays.stream(now.weights).max().getAsInt();
        return part((long) now.weights[likeliest] * ofAll - (long) greatest * of, (long) of * ofAll, part);
    }

    private long bet(int one, int other) {
        knowDay(one);
        knowDay(other);
        refuse(one == other, -1);
        int[] dear = {now.dear(now.days.get(one)), now.dear(now.days.get(other))};
        int[][] wins = new int[2][2];
        for (int own = 0; own < 2; own++) {
            wins[own][1 - own] = dear[own] > dear[1 - own] ? 3 : dear[own] < dear[1 - own] ? -1 : 1;
        }
        for (int pair = 0; pair < 4; pair++) {
            int squire = pair / 2;
            int cook = pair % 2;
            if (wins[1 - squire][cook] <= wins[squire][cook] && wins[1 - cook][squire] <= wins[cook][squire]) {
                return 10 * squire + cook;
            }
        }
        return -9;
    }

    private long wrong(int n, int t, int part) {
        refuse(n < 0 || t < 2, -4);
        refuse(n > 8 || n > now.days.size() || t > 20, -6);
        knowWhat(part, 1);
        BigInteger well = BigInteger.ZERO;
        for (int set = 0; set < 1 << n; set++) {
            World world = now.copy();
            for (int d = 0; d < n; d++) {
                world.spend((set & 1 << d) != 0 ? 1 : world.likeliest(world.days.get(d)));
            }
            if (world.emptied() == 15) {
                well = well.add(BigInteger.valueOf(t - 1).pow(n - Integer.bitCount(set)));
            }
        }
        return part(well, BigInteger.valueOf(t).pow(n), part);
    }

    private long lightest(int what) {
        knowWhat(what, 1);
        int day = -9;
        for (int d = now.days.size() - 1; d >= 0; d--) {
            if (day < 0 || now.heavy(now.days.get(d)) <= now.heavy(now.days.get(day))) {
                day = d;
            }
        }
        return what == 0 || day < 0 ? day : now.heavy(now.days.get(day));
    }

    private static long likely(World world) {
        return world.days.stream().filter(hamper -> world.likeliest(hamper) != -9).count();
    }

    private static boolean in(int hamper, int thing) {
        return (hamper & 1 << thing) != 0;
    }

    private long swap() {
        for (int code = 0; code < 8000; code++) {
            int one = code / 1000;
            int other = code / 100 % 10;
            int a = code / 10 % 10;
            int b = code % 10;
            if (one < other && other < now.days.size() && a < now.things.size() && b < now.things.size()) {
                int first = now.days.get(one);
                int second = now.days.get(other);
                if (in(first, a) && !in(second, a) && in(second, b) && !in(first, b)) {
                    World world = now.copy();
                    world.days.set(one, first - (1 << a) + (1 << b));
                    world.days.set(other, second - (1 << b) + (1 << a));
                    if (likely(world) > likely(now)) {
                        return code;
                    }
                }
            }
        }
        return -9;
    }

    private long often(int what) {
        knowWhat(what, 1);
        int best = -9;
        int most = 0;
        for (int t = now.things.size() - 1; t >= 0; t--) {
            int thing = t;
            int times = (int) now.days.stream().filter(hamper -> in(hamper, thing)).count();
            if (times >= most) {
                best = t;
                most = times;
            }
        }
        return what == 0 ? best : most;
    }

    private long drop() {
        long best = -9;
        long most = -1;
        for (int t = 0; t < now.things.size(); t++) {
            World world = now.copy();
            int out = ~(1 << t);
            world.days.replaceAll(hamper -> hamper & out);
            if (likely(world) > most) {
                most = likely(world);
                best = t;
            }
        }
        return best;
    }

    private long lots(int n, int z, int what) {
        refuse(n < 1, -4);
        refuse(n > 20, -6);
        knowWhat(what, 1);
        BigInteger seed = BigInteger.valueOf(z);
        int work = 0;
        int none = 0;
        for (int summer = 0; summer < n; summer++) {
            World world = now.copy();
            for (int i = 0; i < 10; i++) {
                seed = BigInteger.valueOf(seed.multiply(BigInteger.valueOf(1103515245)).add(BigInteger.valueOf(12345))
                    .intValue());
                int draw = seed.clearBit(31).mod(BigInteger.ONE.shiftLeft(31)).shiftRight(16).intValue();
                int likeliest = world.likeliest(draw % (1 << world.things.size()));
                none += likeliest < 0 ? 1 : 0;
                work += world.spend(likeliest) >= 0 ? 1 : 0;
            }
        }
        return what == 0 ? work : none;
    }
}
