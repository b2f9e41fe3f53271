/** The hamper is packed by the weather: see ../shared/DOC.md for what each call promises. */
public final class HamperByWeather {
    private static final int NOBODY = -1;
    private static final int OTHER = -2;
    private static final int STATE = -3;
    private static final int BELOW = -4;
    private static final int ROOM = -6;
    private static final int NONE = -9;
    private static final long LONG_REFUSALS = 4000000000000000000L;

    private static final int WEATHERS = 6;
    private static final int ALL_WEATHERS = 63;
    private static final int MOST_THINGS = 8;
    private static final int MOST_DAYS = 8;
    private static final int FIELDS = 4;
    private static final int GREATEST = 9;
    private static final int MOST_DONE = 999;
    private static final int MOST_STEPS = 8;
    private static final int MOST_LETTERS = 96;
    private static final int MOST_NUMBERS = 12;
    private static final int LIKELIEST = 9;

    private static final int KINDS = 6;
    private static final int DISH = 1;
    private static final int COAT = 2;
    private static final int ROPE = 3;
    private static final int TRIFLE = 4;
    private static final int SKY = 5;

    private final State now;
    private final State kept;
    private final State trial;
    private boolean hasKept;
    private final Steps steps;
    private final Letters letters;
    private final Numbers numbers;
    private final Harvest harvest;
    private final Fraction fraction;
    private final int[] refusals;

    public HamperByWeather() {
        now = new State();
        kept = new State();
        trial = new State();
        hasKept = false;
        steps = new Steps();
        letters = new Letters();
        numbers = new Numbers();
        harvest = new Harvest();
        fraction = new Fraction();
        refusals = new int[7];
    }

    public int feed(int letter) {
        if (letter < 0) {
            return refused(BELOW);
        }
        if (letter > 255 || letters.count >= MOST_LETTERS) {
            return refused(ROOM);
        }
        return letters.append(letter);
    }

    public int hall() {
        int answer = letters.tellInto(trial, now);
        letters.count = 0;
        if (answer >= 0) {
            now.copyFrom(trial);
            steps.count = 0;
        }
        return answer;
    }

    public int thingOf(int thing, int what) {
        if (!now.hasThing(thing)) {
            return refused(NOBODY);
        }
        int kind = now.kinds[thing];
        int figure = now.figures[thing];
        switch (what) {
            case 0: return kind;
            case 1: return figure;
            case 2: return Kinds.heavy(kind, figure);
            case 3: return Kinds.dear(kind, figure);
            case 4: return now.goes[thing];
            default: return refused(OTHER);
        }
    }

    public int dayOf(int day, int what) {
        if (!now.hasDay(day)) {
            return refused(NOBODY);
        }
        int hamper = now.hampers[day];
        switch (what) {
            case 0: return hamper;
            case 1: return now.couldBe(hamper);
            case 2: return now.likeliestBy(hamper);
            case 3: return now.heavyOf(hamper);
            case 4: return now.dearOf(hamper);
            default: return refused(OTHER);
        }
    }

    public int fieldOf(int field, int what) {
        if (!isField(field)) {
            return refused(NOBODY);
        }
        switch (what) {
            case 0: return now.fields.wishes[field];
            case 1: return now.fields.lefts[field];
            default: return refused(OTHER);
        }
    }

    public int weight(int weather) {
        if (!isWeather(weather)) {
            return refused(NOBODY);
        }
        return now.weights[weather];
    }

    public int thing(int kind, int figure) {
        int refusal = now.thingRefusal(kind, figure);
        if (refusal != 0) {
            return refused(refusal);
        }
        steps.count = 0;
        return now.addThing(kind, figure);
    }

    public int day(int hamper) {
        int refusal = now.dayRefusal(hamper);
        if (refusal != 0) {
            return refused(refusal);
        }
        steps.count = 0;
        return now.addDay(hamper);
    }

    public int weighs(int weather, int v) {
        int refusal = State.weightRefusal(weather, v);
        if (refusal != 0) {
            return refused(refusal);
        }
        int before = now.weightOf(weather);
        steps.noteWeight(now, weather);
        now.reweigh(weather, v);
        return before;
    }

    public int packs(int day, int thing) {
        int refusal = now.packRefusal(day, thing);
        if (refusal != 0) {
            return refused(refusal);
        }
        steps.noteHamper(now, day);
        return now.packOrUnpack(day, thing);
    }

    public int wants(int field, int weathers, int left) {
        int refusal = Fields.wishRefusal(field, weathers, left);
        if (refusal != 0) {
            return refused(refusal);
        }
        int before = now.fields.lefts[field];
        steps.noteField(now, field);
        now.fields.become(field, weathers, left);
        return before;
    }

    public int spends(int day, int weather) {
        int refusal = now.spendRefusal(day, weather);
        if (refusal != 0) {
            return refused(refusal);
        }
        int really = weather == LIKELIEST ? now.likeliestOn(day) : weather;
        steps.noteField(now, now.fields.fieldFor(really));
        return now.spend(really);
    }

    public int back() {
        if (steps.count == 0) {
            return refused(STATE);
        }
        return steps.takeBack(now);
    }

    public long odds(int day, int weather, int part) {
        if (!now.hasDay(day) || !isWeather(weather)) {
            return refusedLong(NOBODY);
        }
        if (!isPart(part)) {
            return refusedLong(OTHER);
        }
        int could = now.couldBe(now.hampers[day]);
        int above = holds(could, weather) ? now.weightOf(weather) : 0;
        fraction.become(above, now.weightOfAll(could));
        return fraction.told(part);
    }

    public int looks(int day) {
        if (!now.hasDay(day)) {
            return refused(NOBODY);
        }
        int hamper = now.hampers[day];
        return Sets.fewest(now, hamper, now.couldBe(hamper));
    }

    public int pack(int weather, int what) {
        if (!isWeather(weather)) {
            return refused(NOBODY);
        }
        switch (what) {
            case 0: return Sets.leastHeavy(now, 1 << weather);
            case 1: return Sets.mostDear(now, 1 << weather);
            default: return refused(OTHER);
        }
    }

    public int rope() {
        return Diary.firstWithRope(now);
    }

    public int wanted(int field) {
        if (!isField(field)) {
            return refused(NOBODY);
        }
        return Diary.withNoneOf(now, now.fields.wishes[field]);
    }

    public int apart() {
        return Diary.twosApart(now);
    }

    public int tell() {
        return Sets.bestTeller(now);
    }

    public int codes(int what) {
        switch (what) {
            case 0: return Sets.unlikeCodes(now);
            case 1: return ALL_WEATHERS + 1 - Sets.unlikeCodes(now);
            default: return refused(OTHER);
        }
    }

    public int smallest(int weathers) {
        if (weathers < 1) {
            return refused(BELOW);
        }
        if (weathers > ALL_WEATHERS) {
            return refused(ROOM);
        }
        return Sets.fewest(now, now.allThings(), weathers);
    }

    public int eggAndRope() {
        return Sets.nearestTwo(now);
    }

    public int gotIn(int what) {
        switch (what) {
            case 0: return harvest.gather(now, 0);
            case 1:
                harvest.gather(now, 0);
                return harvest.fields.emptied();
            default: return refused(OTHER);
        }
    }

    public int order(int k, int i) {
        if (k < 1 || i < -1) {
            return refused(BELOW);
        }
        if (k > MOST_DAYS) {
            return refused(ROOM);
        }
        if (now.days > 7) {
            return refused(STATE);
        }
        harvest.findOrder(now, k);
        return i == -1 ? harvest.most : harvest.orderedDay(i);
    }

    public int plan() {
        return harvest.mostByPlan(now);
    }

    public int spare() {
        return harvest.spareDays(now);
    }

    public int whatKind(int thing, int what) {
        if (!now.hasThing(thing)) {
            return refused(NOBODY);
        }
        if (what != 0 && what != 1) {
            return refused(OTHER);
        }
        if (!numbers.tellOfWeathers()) {
            return refused(STATE);
        }
        return what == 0 ? numbers.kindsSo(now.figures[thing]) : numbers.figuresSo(now.kinds[thing]);
    }

    public long worth(int day, int part) {
        if (!now.hasDay(day)) {
            return refusedLong(NOBODY);
        }
        if (!isPart(part)) {
            return refusedLong(OTHER);
        }
        int could = now.couldBe(now.hampers[day]);
        long sure = now.greatestOf(could);
        long ofCould = now.weightOfAll(could);
        long greatest = now.greatestOf(ALL_WEATHERS);
        long ofAll = now.weightOfAll(ALL_WEATHERS);
        fraction.become(sure * ofAll - greatest * ofCould, ofCould * ofAll);
        return fraction.told(part);
    }

    public int bet(int one, int other) {
        if (!now.hasDay(one) || !now.hasDay(other) || one == other) {
            return refused(NOBODY);
        }
        return Diary.firstSettledBet(now.dearOf(now.hampers[one]), now.dearOf(now.hampers[other]));
    }

    public long wrong(int n, int t, int part) {
        if (n < 0 || t < 2) {
            return refusedLong(BELOW);
        }
        if (n > now.days || t > 20) {
            return refusedLong(ROOM);
        }
        if (!isPart(part)) {
            return refusedLong(OTHER);
        }
        fraction.become(harvest.waysAllIn(now, n, t), power(t, n));
        return fraction.told(part);
    }

    public int lightest(int what) {
        if (what != 0 && what != 1) {
            return refused(OTHER);
        }
        int day = Diary.lightestDay(now);
        return what == 0 || day < 0 ? day : now.heavyOf(now.hamperOf(day));
    }

    public int swap() {
        return Diary.firstSwap(now);
    }

    public int often(int what) {
        if (what != 0 && what != 1) {
            return refused(OTHER);
        }
        int thing = Diary.mostPacked(now);
        return what == 0 ? thing : Diary.timesPacked(now, thing);
    }

    public int sure(int what) {
        switch (what) {
            case 0: return Diary.withSoMany(now, 1);
            case 1: return Diary.withSoMany(now, 0);
            default: return refused(OTHER);
        }
    }

    public long mean(int part) {
        if (!isPart(part)) {
            return refusedLong(OTHER);
        }
        fraction.become(Diary.heavyOfAll(now), now.days);
        return fraction.told(part);
    }

    public int need(int what) {
        int field = now.fields.neediest();
        switch (what) {
            case 0: return field;
            case 1: return now.fields.leftOf(field);
            case 2: return now.fields.allLeft();
            default: return refused(OTHER);
        }
    }

    public int drop() {
        return Diary.bestDropped(now);
    }

    public int row(int v) {
        if (v < 0) {
            return refused(BELOW);
        }
        if (v > 99 || numbers.count >= MOST_NUMBERS) {
            return refused(ROOM);
        }
        return numbers.append(v);
    }

    public int judge() {
        int first = numbers.firstWrong(now);
        numbers.count = 0;
        return first;
    }

    public int clear() {
        int had = numbers.count;
        numbers.count = 0;
        return had;
    }

    public int lots(int n, int z, int what) {
        if (n < 1) {
            return refused(BELOW);
        }
        if (n > 20) {
            return refused(ROOM);
        }
        if (what != 0 && what != 1) {
            return refused(OTHER);
        }
        harvest.summersByLot(now, n, z);
        return what == 0 ? harvest.lotsDone : harvest.lotsNone;
    }

    public int image() {
        kept.copyFrom(now);
        hasKept = true;
        return now.done;
    }

    public int restore() {
        if (!hasKept) {
            return refused(STATE);
        }
        now.copyFrom(kept);
        steps.count = 0;
        return now.done;
    }

    public int count(int what) {
        switch (what) {
            case 0: return now.things;
            case 1: return now.days;
            case 2: return now.done;
            case 3: return now.weightOfAll(ALL_WEATHERS);
            case 4: return now.allPacked();
            case 5: return letters.count;
            case 6: return numbers.count;
            case 7: return steps.count;
            case 11: case 12: case 13: case 14: case 15: case 16: return refusals[what - 10];
            default: return NONE;
        }
    }

    private int refused(int number) {
        int i = -number;
        if (i >= 0 && i < refusals.length) {
            refusals[i]++;
        }
        return number;
    }

    private long refusedLong(int number) {
        return LONG_REFUSALS - refused(number);
    }

    private static boolean isWeather(int weather) {
        return weather >= 0 && weather < WEATHERS;
    }

    private static boolean isField(int field) {
        return field >= 0 && field < FIELDS;
    }

    private static boolean isPart(int part) {
        return part == 0 || part == 1;
    }

    private static boolean holds(int bits, int i) {
        return i >= 0 && i < 31 && (bits >> i & 1) == 1;
    }

    private static long power(int base, int exponent) {
        long power = 1;
        for (int i = 0; i < exponent; i++) {
            power *= base;
        }
        return power;
    }

    /** What a thing is by its kind and its figure alone. */
    private static final class Kinds {
        static boolean goesWith(int kind, int figure, int weather) {
            switch (kind) {
                case DISH: return suitsDish(figure, weather);
                case COAT: return suitsCoat(weather);
                case ROPE: return suitsCoat(weather) || weather == figure % WEATHERS;
                case TRIFLE: return suitsDish(figure, weather) && weather != 1;
                case SKY: return true;
                default: return weather != figure % WEATHERS;
            }
        }

        private static boolean suitsDish(int figure, int weather) {
            return (weather + figure) % 2 == 0;
        }

        private static boolean suitsCoat(int weather) {
            return weather == 1 || weather == 2 || weather == 5;
        }

        static int goesWithAll(int kind, int figure) {
            int weathers = 0;
            for (int w = 0; w < WEATHERS; w++) {
                if (goesWith(kind, figure, w)) {
                    weathers |= 1 << w;
                }
            }
            return weathers;
        }

        static int heavy(int kind, int figure) {
            int plain = figure + 1;
            int dish = plain + 2;
            int coat = 4;
            switch (kind) {
                case DISH: return dish;
                case COAT: return coat;
                case ROPE: return coat / 2;
                case TRIFLE: return 2 * dish;
                case SKY: return 0;
                default: return plain;
            }
        }

        static int dear(int kind, int figure) {
            int coat = 1 + 3;
            switch (kind) {
                case DISH: return figure;
                case COAT: return coat;
                case ROPE: return Math.max(0, coat - figure / 3);
                case TRIFLE: return figure + 5;
                case SKY: return 9;
                default: return 1;
            }
        }
    }

    /** The fields: what weathers each wishes for, and how many days of work are left on it. */
    private static final class Fields {
        private final int[] wishes = new int[FIELDS];
        private final int[] lefts = new int[FIELDS];

        static int wishRefusal(int field, int weathers, int left) {
            if (!isField(field)) {
                return NOBODY;
            }
            if (weathers < 0 || left < 0) {
                return BELOW;
            }
            return weathers > ALL_WEATHERS || left > GREATEST ? ROOM : 0;
        }

        void copyFrom(Fields other) {
            for (int f = 0; f < FIELDS; f++) {
                wishes[f] = other.wishes[f];
                lefts[f] = other.lefts[f];
            }
        }

        void become(int field, int weathers, int left) {
            if (isField(field)) {
                wishes[field] = weathers;
                lefts[field] = left;
            }
        }

        int leftOf(int field) {
            return isField(field) ? lefts[field] : 0;
        }

        int fieldFor(int weather) {
            for (int f = 0; f < FIELDS; f++) {
                if (lefts[f] > 0 && holds(wishes[f], weather)) {
                    return f;
                }
            }
            return NONE;
        }

        int work(int weather) {
            int field = fieldFor(weather);
            if (isField(field)) {
                lefts[field]--;
            }
            return field;
        }

        void undoWork(int field) {
            if (isField(field)) {
                lefts[field]++;
            }
        }

        int emptied() {
            int fields = 0;
            for (int f = 0; f < FIELDS; f++) {
                if (lefts[f] == 0) {
                    fields |= 1 << f;
                }
            }
            return fields;
        }

        int allLeft() {
            return leftAmong((1 << FIELDS) - 1);
        }

        int leftAmong(int among) {
            int left = 0;
            for (int f = 0; f < FIELDS; f++) {
                if (holds(among, f)) {
                    left += lefts[f];
                }
            }
            return left;
        }

        int wishersOf(int weather) {
            int fields = 0;
            for (int f = 0; f < FIELDS; f++) {
                if (holds(wishes[f], weather)) {
                    fields |= 1 << f;
                }
            }
            return fields;
        }

        int neediest() {
            int neediest = 0;
            for (int f = 1; f < FIELDS; f++) {
                if (lefts[f] > leftOf(neediest)) {
                    neediest = f;
                }
            }
            return neediest;
        }
    }

    /** All that an image keeps: weights, things, days, fields and the work done. */
    private static final class State {
        private final int[] weights = new int[WEATHERS];
        private final int[] kinds = new int[MOST_THINGS];
        private final int[] figures = new int[MOST_THINGS];
        private final int[] goes = new int[MOST_THINGS];
        private int things;
        private final int[] hampers = new int[MOST_DAYS];
        private int days;
        private final Fields fields = new Fields();
        private int done;

        State() {
            for (int w = 0; w < WEATHERS; w++) {
                weights[w] = 1;
            }
            for (int f = 0; f < FIELDS; f++) {
                fields.wishes[f] = ALL_WEATHERS;
            }
        }

        void copyFrom(State other) {
            System.arraycopy(other.weights, 0, weights, 0, WEATHERS);
            System.arraycopy(other.kinds, 0, kinds, 0, MOST_THINGS);
            System.arraycopy(other.figures, 0, figures, 0, MOST_THINGS);
            System.arraycopy(other.goes, 0, goes, 0, MOST_THINGS);
            System.arraycopy(other.hampers, 0, hampers, 0, MOST_DAYS);
            things = other.things;
            days = other.days;
            fields.copyFrom(other.fields);
            done = other.done;
        }

        boolean hasThing(int thing) {
            return thing >= 0 && thing < things && thing < MOST_THINGS;
        }

        boolean hasDay(int day) {
            return day >= 0 && day < days && day < MOST_DAYS;
        }

        int allThings() {
            return (1 << things) - 1;
        }

        int thingRefusal(int kind, int figure) {
            if (kind < 0 || kind >= KINDS) {
                return OTHER;
            }
            if (figure < 0) {
                return BELOW;
            }
            return figure > GREATEST || things >= MOST_THINGS ? ROOM : 0;
        }

        int dayRefusal(int hamper) {
            if (hamper < 0) {
                return BELOW;
            }
            return hamper > allThings() || days >= MOST_DAYS ? ROOM : 0;
        }

        static int weightRefusal(int weather, int v) {
            if (!isWeather(weather)) {
                return NOBODY;
            }
            if (v < 0) {
                return BELOW;
            }
            return v > GREATEST ? ROOM : 0;
        }

        int packRefusal(int day, int thing) {
            return hasDay(day) && hasThing(thing) ? 0 : NOBODY;
        }

        int spendRefusal(int day, int weather) {
            return hasDay(day) && (isWeather(weather) || weather == LIKELIEST) ? 0 : NOBODY;
        }

        int addThing(int kind, int figure) {
            int thing = things;
            if (thing < MOST_THINGS) {
                kinds[thing] = kind;
                figures[thing] = figure;
                goes[thing] = Kinds.goesWithAll(kind, figure);
                things++;
            }
            return thing;
        }

        int addDay(int hamper) {
            int day = days;
            if (day < MOST_DAYS) {
                hampers[day] = hamper;
                days++;
            }
            return day;
        }

        int weightOf(int weather) {
            return isWeather(weather) ? weights[weather] : 0;
        }

        void reweigh(int weather, int v) {
            if (isWeather(weather)) {
                weights[weather] = v;
            }
        }

        int packOrUnpack(int day, int thing) {
            if (!hasDay(day)) {
                return 0;
            }
            hampers[day] ^= 1 << thing;
            return holds(hampers[day], thing) ? 1 : 0;
        }

        int spend(int weather) {
            int field = fields.work(weather);
            if (field >= 0 && done < MOST_DONE) {
                done++;
            }
            return field;
        }

        int hamperOf(int day) {
            return hasDay(day) ? hampers[day] : 0;
        }

        int couldBe(int hamper) {
            int weathers = ALL_WEATHERS;
            for (int t = 0; t < MOST_THINGS; t++) {
                if (holds(hamper, t)) {
                    weathers &= goes[t];
                }
            }
            return weathers;
        }

        int heavyOf(int hamper) {
            int heavy = 0;
            for (int t = 0; t < MOST_THINGS; t++) {
                if (holds(hamper, t)) {
                    heavy += Kinds.heavy(kinds[t], figures[t]);
                }
            }
            return heavy;
        }

        int dearOf(int hamper) {
            int dear = 0;
            for (int t = 0; t < MOST_THINGS; t++) {
                if (holds(hamper, t)) {
                    dear += Kinds.dear(kinds[t], figures[t]);
                }
            }
            return dear;
        }

        int likeliestOf(int weathers) {
            int likeliest = NONE;
            int greatest = 0;
            for (int w = 0; w < WEATHERS; w++) {
                if (holds(weathers, w) && weights[w] > greatest) {
                    likeliest = w;
                    greatest = weights[w];
                }
            }
            return likeliest;
        }

        int likeliestBy(int hamper) {
            return likeliestOf(couldBe(hamper));
        }

        int likeliestOn(int day) {
            return likeliestBy(hamperOf(day));
        }

        int weightOfAll(int weathers) {
            int sum = 0;
            for (int w = 0; w < WEATHERS; w++) {
                if (holds(weathers, w)) {
                    sum += weights[w];
                }
            }
            return sum;
        }

        int greatestOf(int weathers) {
            int greatest = 0;
            for (int w = 0; w < WEATHERS; w++) {
                if (holds(weathers, w)) {
                    greatest = Math.max(greatest, weights[w]);
                }
            }
            return greatest;
        }

        int allPacked() {
            int packed = 0;
            for (int d = 0; d < MOST_DAYS; d++) {
                packed += Integer.bitCount(hamperOf(d));
            }
            return packed;
        }
    }

    /** What one change has written over. */
    private static final class Step {
        private static final int WEIGHT = 0;
        private static final int HAMPER = 1;
        private static final int FIELD = 2;

        private int part;
        private int place;
        private int before;
        private int leftBefore;
        private int doneBefore;
    }

    /** The changes that can be taken back, the latest last. */
    private static final class Steps {
        private final Step[] steps = new Step[MOST_STEPS];
        private int count;

        Steps() {
            for (int i = 0; i < MOST_STEPS; i++) {
                steps[i] = new Step();
            }
            count = 0;
        }

        void noteWeight(State state, int weather) {
            note(state, Step.WEIGHT, weather).before = state.weightOf(weather);
        }

        void noteHamper(State state, int day) {
            note(state, Step.HAMPER, day).before = state.hamperOf(day);
        }

        /** A field of NONE is well: a change that left all as it was counts too. */
        void noteField(State state, int field) {
            Step step = note(state, Step.FIELD, field);
            if (isField(field)) {
                step.before = state.fields.wishes[field];
                step.leftBefore = state.fields.lefts[field];
            }
        }

        private Step note(State state, int part, int place) {
            if (count >= MOST_STEPS) {
                forgetOldest();
            }
            int last = Math.max(0, Math.min(count, MOST_STEPS - 1));
            Step step = steps[last];
            step.part = part;
            step.place = place;
            step.doneBefore = state.done;
            count = last + 1;
            return step;
        }

        private void forgetOldest() {
            Step oldest = steps[0];
            for (int i = 1; i < MOST_STEPS; i++) {
                steps[i - 1] = steps[i];
            }
            steps[MOST_STEPS - 1] = oldest;
            count = MOST_STEPS - 1;
        }

        int takeBack(State state) {
            if (count < 1 || count > MOST_STEPS) {
                return count;
            }
            count--;
            Step step = steps[count];
            if (step.part == Step.WEIGHT) {
                state.reweigh(step.place, step.before);
            } else if (step.part == Step.HAMPER && state.hasDay(step.place)) {
                state.hampers[step.place] = step.before;
            } else if (step.part == Step.FIELD) {
                state.fields.become(step.place, step.before, step.leftBefore);
                state.done = step.doneBefore;
            }
            return count;
        }
    }

    /** The letters of a hall, and what they tell. */
    private static final class Letters {
        private static final int NO_HEAD = -1;

        private final int[] letters = new int[MOST_LETTERS];
        private int count;

        int append(int letter) {
            if (count < MOST_LETTERS) {
                letters[count] = letter;
                count++;
            }
            return count;
        }

        /** Answers how many statements, or the fault; the trial is of use only without a fault. */
        int tellInto(State trial, State from) {
            int fault = firstUnfit();
            if (fault >= 0) {
                return -1000 - fault;
            }
            trial.copyFrom(from);
            int statements = 0;
            int start = 0;
            for (int i = 0; i < count; i++) {
                if (letterAt(i) == ';') {
                    if (refusalAt(trial, start) != 0) {
                        return -2000 - start;
                    }
                    bring(trial, start);
                    statements++;
                    start = i + 1;
                }
            }
            return statements;
        }

        private int letterAt(int place) {
            return place >= 0 && place < count && place < MOST_LETTERS ? letters[place] : 0;
        }

        private static int digitsBehind(int head) {
            switch (head) {
                case 's': return 1;
                case 't': case 'w': case 'p': return 2;
                case 'd': return 3;
                case 'f': return 4;
                default: return NO_HEAD;
            }
        }

        /** The place of the first letter with which no hall can go on; -1 if it is one. */
        private int firstUnfit() {
            int digits = NO_HEAD;
            for (int place = 0; place < count; place++) {
                int letter = letterAt(place);
                if (digits == NO_HEAD) {
                    digits = digitsBehind(letter);
                    if (digits == NO_HEAD) {
                        return place;
                    }
                } else if (digits == 0) {
                    if (letter != ';') {
                        return place;
                    }
                    digits = NO_HEAD;
                } else {
                    if (letter < '0' || letter > '9') {
                        return place;
                    }
                    digits--;
                }
            }
            return digits == NO_HEAD && count > 0 ? -1 : count;
        }

        private int number(int place, int digits) {
            int number = 0;
            for (int i = 0; i < digits; i++) {
                number = number * 10 + letterAt(place + i) - '0';
            }
            return number;
        }

        private int refusalAt(State trial, int start) {
            int first = number(start + 1, 1);
            int second = number(start + 2, 1);
            switch (letterAt(start)) {
                case 't': return trial.thingRefusal(first, second);
                case 'd': return trial.dayRefusal(number(start + 1, 3));
                case 'w': return State.weightRefusal(first, second);
                case 'f': return Fields.wishRefusal(first, number(start + 2, 2), number(start + 4, 1));
                case 's': return trial.spendRefusal(first, LIKELIEST);
                case 'p': return trial.packRefusal(first, second);
                default: return OTHER;
            }
        }

        private void bring(State trial, int start) {
            int first = number(start + 1, 1);
            int second = number(start + 2, 1);
            switch (letterAt(start)) {
                case 't':
                    trial.addThing(first, second);
                    break;
                case 'd':
                    trial.addDay(number(start + 1, 3));
                    break;
                case 'w':
                    trial.reweigh(first, second);
                    break;
                case 'f':
                    trial.fields.become(first, number(start + 2, 2), number(start + 4, 1));
                    break;
                case 's':
                    trial.spend(trial.likeliestOn(first));
                    break;
                case 'p':
                    trial.packOrUnpack(first, second);
                    break;
                default:
                    break;
            }
        }
    }

    /** The row of numbers. */
    private static final class Numbers {
        private static final int NOT_TOLD = 2;

        private final int[] numbers = new int[MOST_NUMBERS];
        private int count;

        int append(int v) {
            if (count < MOST_NUMBERS) {
                numbers[count] = v;
                count++;
            }
            return count;
        }

        boolean tellOfWeathers() {
            if (count > WEATHERS) {
                return false;
            }
            for (int i = 0; i < MOST_NUMBERS && i < count; i++) {
                if (numbers[i] > NOT_TOLD) {
                    return false;
                }
            }
            return true;
        }

        private boolean isSo(int kind, int figure) {
            for (int w = 0; w < MOST_NUMBERS && w < count; w++) {
                int goes = Kinds.goesWith(kind, figure, w) ? 1 : 0;
                if (numbers[w] != NOT_TOLD && numbers[w] != goes) {
                    return false;
                }
            }
            return true;
        }

        int kindsSo(int figure) {
            int kinds = 0;
            for (int kind = 0; kind < KINDS; kind++) {
                if (isSo(kind, figure)) {
                    kinds |= 1 << kind;
                }
            }
            return kinds;
        }

        int figuresSo(int kind) {
            int figures = 0;
            for (int figure = 0; figure <= GREATEST; figure++) {
                if (isSo(kind, figure)) {
                    figures |= 1 << figure;
                }
            }
            return figures;
        }

        int firstWrong(State state) {
            for (int d = 0; d < MOST_NUMBERS && d < count; d++) {
                int likeliest = state.likeliestOn(d);
                int told = likeliest == NONE ? 9 : likeliest;
                if (!state.hasDay(d) || numbers[d] != told) {
                    return d;
                }
            }
            return NONE;
        }
    }

    /** A fraction above 0 in lowest terms, or 0 by 1. */
    private static final class Fraction {
        private long above;
        private long below;

        void become(long newAbove, long newBelow) {
            above = 0;
            below = 1;
            if (newAbove > 0 && newBelow > 0) {
                long shared = greatestShared(newAbove, newBelow);
                if (shared > 0) {
                    above = newAbove / shared;
                    below = newBelow / shared;
                }
            }
        }

        long told(int part) {
            return part == 0 ? above : below;
        }

        // Two longs have no more than some 92 steps.
        private static long greatestShared(long a, long b) {
            long greater = a;
            long lesser = b;
            for (int i = 0; i < 200 && lesser != 0; i++) {
                long rest = greater % lesser;
                greater = lesser;
                lesser = rest;
            }
            return greater;
        }
    }

    /** What is asked of sets of things. */
    private static final class Sets {
        static int fewest(State state, int among, int weathers) {
            int best = NONE;
            int least = MOST_THINGS + 1;
            for (int set = 0; set <= state.allThings(); set++) {
                if ((set & ~among) == 0 && Integer.bitCount(set) < least && state.couldBe(set) == weathers) {
                    best = set;
                    least = Integer.bitCount(set);
                }
            }
            return best;
        }

        static int leastHeavy(State state, int weathers) {
            int best = NONE;
            for (int set = 0; set <= state.allThings(); set++) {
                boolean better = best == NONE || state.heavyOf(set) < state.heavyOf(best);
                if (better && state.couldBe(set) == weathers) {
                    best = set;
                }
            }
            return best;
        }

        static int mostDear(State state, int weathers) {
            int best = NONE;
            for (int set = 0; set <= state.allThings(); set++) {
                boolean better = best == NONE || state.dearOf(set) > state.dearOf(best);
                if (better && state.couldBe(set) == weathers) {
                    best = set;
                }
            }
            return best;
        }

        static int unlikeCodes(State state) {
            long seen = 0;
            for (int set = 0; set <= state.allThings(); set++) {
                seen |= 1L << state.couldBe(set);
            }
            return Long.bitCount(seen);
        }

        static int bestTeller(State state) {
            int best = NONE;
            int least = 0;
            for (int t = 0; t < MOST_THINGS && t < state.things; t++) {
                int with = state.weightOfAll(state.goes[t]);
                int without = state.weightOfAll(ALL_WEATHERS & ~state.goes[t]);
                int asunder = Math.abs(with - without);
                if (best == NONE || asunder < least) {
                    best = t;
                    least = asunder;
                }
            }
            return best;
        }

        static int nearestTwo(State state) {
            int best = NONE;
            int least = WEATHERS + 1;
            for (int a = 0; a < MOST_THINGS && a < state.things; a++) {
                for (int b = a + 1; b < MOST_THINGS && b < state.things; b++) {
                    int both = Integer.bitCount(state.goes[a] & state.goes[b]);
                    if (both > 0 && both < least) {
                        best = 10 * a + b;
                        least = both;
                    }
                }
            }
            return best;
        }
    }

    /** What is asked of the days and their hampers. */
    private static final class Diary {
        static int firstWithRope(State state) {
            for (int d = 0; d < MOST_DAYS; d++) {
                for (int t = 0; t < MOST_THINGS; t++) {
                    if (holds(state.hamperOf(d), t) && state.kinds[t] == ROPE) {
                        return d;
                    }
                }
            }
            return NONE;
        }

        static int withNoneOf(State state, int weathers) {
            int days = 0;
            for (int d = 0; d < MOST_DAYS; d++) {
                if (state.hasDay(d) && (state.couldBe(state.hamperOf(d)) & weathers) == 0) {
                    days |= 1 << d;
                }
            }
            return days;
        }

        static int twosApart(State state) {
            int twos = 0;
            for (int a = 0; a < MOST_DAYS && a < state.days; a++) {
                int could = state.couldBe(state.hamperOf(a));
                for (int b = a + 1; b < MOST_DAYS && b < state.days; b++) {
                    if ((could & state.couldBe(state.hamperOf(b))) == 0) {
                        twos++;
                    }
                }
            }
            return twos;
        }

        static int withSoMany(State state, int weathers) {
            int days = 0;
            for (int d = 0; d < MOST_DAYS; d++) {
                if (state.hasDay(d) && Integer.bitCount(state.couldBe(state.hamperOf(d))) == weathers) {
                    days |= 1 << d;
                }
            }
            return days;
        }

        static int lightestDay(State state) {
            int lightest = NONE;
            int least = 0;
            for (int d = 0; d < MOST_DAYS && d < state.days; d++) {
                int heavy = state.heavyOf(state.hamperOf(d));
                if (lightest == NONE || heavy < least) {
                    lightest = d;
                    least = heavy;
                }
            }
            return lightest;
        }

        static int heavyOfAll(State state) {
            int heavy = 0;
            for (int d = 0; d < MOST_DAYS; d++) {
                heavy += state.heavyOf(state.hamperOf(d));
            }
            return heavy;
        }

        static int timesPacked(State state, int thing) {
            int times = 0;
            for (int d = 0; d < MOST_DAYS; d++) {
                if (holds(state.hamperOf(d), thing)) {
                    times++;
                }
            }
            return times;
        }

        static int mostPacked(State state) {
            int best = NONE;
            int most = 0;
            for (int t = 0; t < state.things; t++) {
                int times = timesPacked(state, t);
                if (best == NONE || times > most) {
                    best = t;
                    most = times;
                }
            }
            return best;
        }

        static int bestDropped(State state) {
            int best = NONE;
            int most = 0;
            for (int t = 0; t < state.things; t++) {
                int likely = likelyWithout(state, t);
                if (best == NONE || likely > most) {
                    best = t;
                    most = likely;
                }
            }
            return best;
        }

        private static int likelyWithout(State state, int thing) {
            int likely = 0;
            for (int d = 0; d < MOST_DAYS; d++) {
                if (state.hasDay(d) && state.likeliestBy(state.hamperOf(d) & ~(1 << thing)) != NONE) {
                    likely++;
                }
            }
            return likely;
        }

        static int firstSwap(State state) {
            for (int one = 0; one < state.days; one++) {
                for (int other = one + 1; other < state.days; other++) {
                    int things = firstSwapOf(state, state.hamperOf(one), state.hamperOf(other));
                    if (things >= 0) {
                        return 1000 * one + 100 * other + things;
                    }
                }
            }
            return NONE;
        }

        /** Only these two hampers change, so only their own days can gain a likeliest weather. */
        private static int firstSwapOf(State state, int one, int other) {
            int before = likelyOfTwo(state, one, other);
            for (int a = 0; a < state.things; a++) {
                for (int b = 0; b < state.things; b++) {
                    boolean free = holds(one & ~other, a) && holds(other & ~one, b);
                    int changed = 1 << a | 1 << b;
                    if (free && likelyOfTwo(state, one ^ changed, other ^ changed) > before) {
                        return 10 * a + b;
                    }
                }
            }
            return NONE;
        }

        private static int likelyOfTwo(State state, int one, int other) {
            int first = state.likeliestBy(one) == NONE ? 0 : 1;
            int second = state.likeliestBy(other) == NONE ? 0 : 1;
            return first + second;
        }

        /** Squire and cook each name 0, the one day, or 1, the other. */
        static int firstSettledBet(int dearOfOne, int dearOfOther) {
            for (int squire = 0; squire < 2; squire++) {
                for (int cook = 0; cook < 2; cook++) {
                    int squires = winsBy(squire, cook, dearOfOne, dearOfOther);
                    int squiresElse = winsBy(1 - squire, cook, dearOfOne, dearOfOther);
                    int cooks = winsBy(cook, squire, dearOfOne, dearOfOther);
                    int cooksElse = winsBy(1 - cook, squire, dearOfOne, dearOfOther);
                    if (squiresElse <= squires && cooksElse <= cooks) {
                        return 10 * squire + cook;
                    }
                }
            }
            return NONE;
        }

        private static int winsBy(int own, int others, int dearOfOne, int dearOfOther) {
            if (own == others) {
                return 0;
            }
            int ownDear = own == 0 ? dearOfOne : dearOfOther;
            int othersDear = own == 0 ? dearOfOther : dearOfOne;
            if (ownDear == othersDear) {
                return 1;
            }
            return ownDear > othersDear ? 3 : -1;
        }
    }

    /** Days spent for trial: the fields here are a copy that may be worked on. */
    private static final class Harvest {
        private static final int DRAWS_A_SUMMER = 10;

        private final Fields fields = new Fields();
        private final int[] weathers = new int[MOST_DAYS];
        private int days;
        private final int[] path = new int[MOST_DAYS];
        private final int[] best = new int[MOST_DAYS];
        private int counted;
        private int atMost;
        private int most;
        private int oneIn;
        private int lotsDone;
        private int lotsNone;

        private void begin(State state) {
            fields.copyFrom(state.fields);
            days = Math.max(0, Math.min(state.days, MOST_DAYS));
            for (int d = 0; d < MOST_DAYS; d++) {
                weathers[d] = state.hasDay(d) ? state.likeliestBy(state.hamperOf(d)) : NONE;
            }
        }

        int gather(State state, int leftOut) {
            begin(state);
            int work = 0;
            for (int d = 0; d < days; d++) {
                if (!holds(leftOut, d) && fields.work(weathers[d]) >= 0) {
                    work++;
                }
            }
            return work;
        }

        int spareDays(State state) {
            int all = gather(state, 0);
            int spare = 0;
            for (int d = 0; d < state.days; d++) {
                if (gather(state, 1 << d) == all) {
                    spare |= 1 << d;
                }
            }
            return spare;
        }

        int mostByPlan(State state) {
            begin(state);
            return leastCut();
        }

        /**
         * The most that a flow from days to fields carries is the least cut: for some of the fields
         * what is left on them, and each day that another field wishes for.
         */
        private int leastCut() {
            int least = days;
            for (int cut = 0; cut < 1 << FIELDS; cut++) {
                int carried = fields.leftAmong(cut);
                for (int d = 0; d < days; d++) {
                    if ((fields.wishersOf(weathers[d]) & ~cut) != 0) {
                        carried++;
                    }
                }
                least = Math.min(least, carried);
            }
            return least;
        }

        void findOrder(State state, int k) {
            begin(state);
            counted = Math.min(k, days);
            // No order does more than a plan.
            atMost = leastCut();
            most = -1;
            extendPath(this, 0, 0, 0);
        }

        /** Goes through orders by numbers and leaves those that can't be better than the best yet. */
        private static void extendPath(Harvest harvest, int depth, int used, int work) {
            if (depth >= harvest.counted || depth >= MOST_DAYS) {
                if (work > harvest.most) {
                    harvest.most = work;
                    harvest.keepPath(used);
                }
                return;
            }
            int more = Math.min(harvest.counted - depth, harvest.ableWithout(used));
            int hoped = Math.min(work + more, harvest.atMost);
            for (int d = 0; d < harvest.days; d++) {
                if (!holds(used, d) && hoped > harvest.most) {
                    int field = harvest.fields.work(harvest.weathers[d]);
                    harvest.path[depth] = d;
                    extendPath(harvest, depth + 1, used | 1 << d, field >= 0 ? work + 1 : work);
                    harvest.fields.undoWork(field);
                }
            }
        }

        /** A day that finds no field now finds none later either: what is left only shrinks. */
        private int ableWithout(int used) {
            int able = 0;
            for (int d = 0; d < days; d++) {
                if (!holds(used, d) && fields.fieldFor(weathers[d]) >= 0) {
                    able++;
                }
            }
            return able;
        }

        private void keepPath(int used) {
            int place = 0;
            for (; place < counted && place < MOST_DAYS; place++) {
                best[place] = path[place];
            }
            for (int d = 0; d < days; d++) {
                if (!holds(used, d) && place < MOST_DAYS) {
                    best[place] = d;
                    place++;
                }
            }
        }

        int orderedDay(int i) {
            return i >= 0 && i < days && i < MOST_DAYS ? best[i] : NONE;
        }

        /** Of all power(t, n) ways for n days, how many leave nothing on any field. */
        long waysAllIn(State state, int n, int t) {
            begin(state);
            days = Math.min(n, days);
            oneIn = t;
            return waysFrom(this, 0);
        }

        private static long waysFrom(Harvest harvest, int day) {
            if (day >= harvest.days || day >= MOST_DAYS) {
                return harvest.fields.allLeft() == 0 ? 1 : 0;
            }
            int field = harvest.fields.work(harvest.weathers[day]);
            long right = waysFrom(harvest, day + 1);
            harvest.fields.undoWork(field);
            field = harvest.fields.work(1);
            long wrong = waysFrom(harvest, day + 1);
            harvest.fields.undoWork(field);
            return right * (harvest.oneIn - 1) + wrong;
        }

        void summersByLot(State state, int summers, int seed) {
            int z = seed;
            lotsDone = 0;
            lotsNone = 0;
            for (int summer = 0; summer < summers; summer++) {
                fields.copyFrom(state.fields);
                for (int i = 0; i < DRAWS_A_SUMMER; i++) {
                    z = z * 1103515245 + 12345;
                    int likeliest = state.likeliestBy(drawn(z, state.allThings() + 1));
                    if (likeliest == NONE) {
                        lotsNone++;
                    } else if (fields.work(likeliest) >= 0) {
                        lotsDone++;
                    }
                }
            }
        }

        private static int drawn(int z, int n) {
            return n > 0 ? (z & 0x7fffffff) / 65536 % n : 0;
        }
    }
}
