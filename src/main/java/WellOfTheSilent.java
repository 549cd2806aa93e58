/**
 * A hill told in letters: people who are silent for some hours of a day, and the well that they
 * draw from while they are. The document ../shared/DOC.md says what each call promises.
 *
 * All that a call needs to think with is made once, with the object, and used again by every call.
 */
public final class WellOfTheSilent {
    private static final int NOBODY = -1;
    private static final int OTHER = -2;
    private static final int STATE = -3;
    private static final int BELOW = -4;
    private static final int ROOM = -6;
    private static final int NONE = -9;
    private static final int ALLOWED = 0;
    private static final int REFUSAL_NUMBERS = 6;
    private static final int REFUSALS_COUNTED_FROM = 10;
    private static final long LONG_REFUSAL = 4000000000000000000L;

    private static final int LETTER_FAULT = -1000;
    private static final int STATEMENT_FAULT = -2000;

    private static final int MOST_PEOPLE = 6;
    private static final int MOST_FIGURE = 9;
    private static final int MOST_CAN = 9;
    private static final int MOST_WATER = 99;
    private static final int MOST_FLOW = 30;
    private static final int FIRST_WATER = 20;
    private static final int FIRST_FLOW = 10;
    private static final int FIRST_HAS = 5;
    private static final int HAS_ENOUGH = 20;
    private static final int MOST_LETTERS = 96;
    private static final int MOST_LETTER = 255;
    private static final int MOST_ROW = 16;
    private static final int DAY = 12;
    private static final int LAST_HOUR = 999;
    private static final int MOST_HOURS = 60;
    private static final int MOST_BEST_HOURS = 48;
    private static final int MOST_DEAR_HOURS = 24;
    private static final int MOST_SNEEZES = 7;
    private static final int LEAST_ODDS = 2;
    private static final int MOST_ODDS = 20;
    private static final int MOST_YEARS = 20;
    private static final int DAYS_OF_YEAR = 4;
    private static final int WORTH_OF_SPEAKING = 2;
    private static final int DRINKS_NOTHING = 99;
    private static final int WITHOUT_SIGN = 0x7fffffff;

    // PERSON is 0: all other kinds stand under it, so it is what is left where none of them fits.
    private static final int WIFE = 1;
    private static final int SCOLD = 2;
    private static final int MUTE = 3;
    private static final int PRIEST = 4;
    private static final int LIAR = 5;
    private static final int KINDS = 6;
    private static final String KIND_LETTERS = "pwsmtl";

    private final Hill now = new Hill();
    private final Hill thought = new Hill();
    private final Hill kept = new Hill();
    private final Telling telling = new Telling();
    private final int[] rowNumbers = new int[MOST_ROW];
    private final int[] refusals = new int[REFUSAL_NUMBERS + 1];
    private int rowSize = 0;
    private boolean isKept = false;

    public WellOfTheSilent() {
    }

    public int letter(int c) {
        int refusal = rangeRefusal(c, 0, MOST_LETTER);
        if (refusal == ALLOWED && !telling.add(c)) {
            refusal = ROOM;
        }
        if (refusal != ALLOWED) {
            return refused(refusal);
        }
        return telling.size;
    }

    public int hill() {
        int wrongLetter = telling.firstWrongLetter();
        // A fault must leave all as it was, so the hill comes in thought first.
        Hill told = thoughtOfNow();
        int wrongStatement = wrongLetter == NONE ? telling.firstWrongStatement(told) : NONE;
        int statements = telling.statements();
        telling.forget();
        if (wrongLetter != NONE) {
            return LETTER_FAULT - wrongLetter;
        }
        if (wrongStatement != NONE) {
            return STATEMENT_FAULT - wrongStatement;
        }
        now.copyFrom(told);
        return statements;
    }

    public int person(int person, int what) {
        if (!now.isThere(person)) {
            return refused(NOBODY);
        }
        switch (what) {
            case 0: return now.kinds[person];
            case 1: return now.figures[person];
            case 2: return now.cans[person];
            case 3: return now.has[person];
            case 4: return now.hasSpoken(person) ? 1 : 0;
            case 5: return now.hasDrawn(person) ? 1 : 0;
            case 6: return now.friends[person];
            case 7: return now.speakingHour(person);
            case 8: return now.drinkOf(person);
            default: return refused(OTHER);
        }
    }

    public int speaks(int person) {
        if (!now.isThere(person)) {
            return refused(NOBODY);
        }
        if (now.hasSpoken(person)) {
            return refused(STATE);
        }
        now.letSpeak(person);
        return Integer.bitCount(now.spoken);
    }

    public int befriends(int person, int friend) {
        if (!now.isThere(person)) {
            return refused(NOBODY);
        }
        int was = now.friends[person];
        return now.setFriend(person, friend) ? was : refused(NOBODY);
    }

    public int pours(int person, int v) {
        int refusal = oneRefusal(person, v, MOST_WATER);
        if (refusal != ALLOWED) {
            return refused(refusal);
        }
        int was = now.has[person];
        now.has[person] = v;
        return was;
    }

    public int cans(int person, int v) {
        int refusal = oneRefusal(person, v, MOST_CAN);
        if (refusal != ALLOWED) {
            return refused(refusal);
        }
        int was = now.cans[person];
        now.cans[person] = v;
        return was;
    }

    public int water(int v) {
        int refusal = rangeRefusal(v, 0, MOST_WATER);
        if (refusal != ALLOWED) {
            return refused(refusal);
        }
        int was = now.water;
        now.water = v;
        return was;
    }

    public int flow(int v) {
        int refusal = rangeRefusal(v, 0, MOST_FLOW);
        if (refusal != ALLOWED) {
            return refused(refusal);
        }
        int was = now.flow;
        now.flow = v;
        return was;
    }

    public int turn(int person, int kind, int figure) {
        if (!now.isThere(person)) {
            return refused(NOBODY);
        }
        if (kind < 0 || kind >= KINDS) {
            return refused(OTHER);
        }
        int refusal = rangeRefusal(figure, 0, MOST_FIGURE);
        if (refusal != ALLOWED) {
            return refused(refusal);
        }
        int was = 10 * now.kinds[person] + now.figures[person];
        now.kinds[person] = kind;
        now.figures[person] = figure;
        return was;
    }

    public int hours(int n) {
        int refusal = rangeRefusal(n, 1, MOST_HOURS);
        if (refusal == ALLOWED && !now.mayPass(n)) {
            refusal = ROOM;
        }
        if (refusal != ALLOWED) {
            return refused(refusal);
        }
        now.passHours(n);
        return now.water;
    }

    public int hasThen(int person, int n) {
        int refusal = oneRefusal(person, n, MOST_HOURS);
        if (refusal != ALLOWED) {
            return refused(refusal);
        }
        return thoughtBehind(n).has[person];
    }

    public int then(int n, int what) {
        int refusal = rangeRefusal(n, 0, MOST_HOURS);
        if (refusal == ALLOWED) {
            refusal = whatRefusal(what, 3);
        }
        if (refusal != ALLOWED) {
            return refused(refusal);
        }
        Hill behind = thoughtBehind(n);
        switch (what) {
            case 0: return behind.water;
            case 1: return behind.spoken;
            case 2: return behind.drew;
            default: return behind.together();
        }
    }

    public int dry(int person) {
        if (person == -1) {
            return firstDry();
        }
        if (!now.isThere(person)) {
            return refused(NOBODY);
        }
        Hill later = thoughtOfNow();
        for (int n = 0; n <= MOST_HOURS; n++) {
            if (later.has[person] == 0) {
                return n;
            }
            later.passHour(0);
        }
        return NONE;
    }

    public int empty() {
        Hill later = thoughtOfNow();
        for (int n = 0; n <= MOST_HOURS; n++) {
            if (later.water == 0) {
                return n;
            }
            later.passHour(0);
        }
        return NONE;
    }

    public int flowBest(int n) {
        int refusal = rangeRefusal(n, 0, MOST_BEST_HOURS);
        if (refusal != ALLOWED) {
            return refused(refusal);
        }
        for (int flow = 0; flow <= MOST_FLOW; flow++) {
            Hill tried = thoughtOfNow();
            tried.flow = flow;
            if (tried.staysWet(now.everybody(), n)) {
                return flow;
            }
        }
        return NONE;
    }

    public int canBest(int person, int n) {
        int refusal = oneRefusal(person, n, MOST_BEST_HOURS);
        if (refusal != ALLOWED) {
            return refused(refusal);
        }
        for (int can = 0; can <= MOST_CAN; can++) {
            Hill tried = thoughtOfNow();
            tried.cans[person] = can;
            if (tried.staysWet(1 << person, n)) {
                return can;
            }
        }
        return NONE;
    }

    public int friendBest(int person, int n) {
        int refusal = oneRefusal(person, n, MOST_BEST_HOURS);
        if (refusal != ALLOWED) {
            return refused(refusal);
        }
        int best = NONE;
        int most = thoughtBehind(n).leastHas();
        for (int friend = 0; friend < now.size; friend++) {
            if (friend == person) {
                continue;
            }
            Hill tried = thoughtOfNow();
            tried.friends[person] = friend;
            tried.passHours(n);
            if (tried.leastHas() > most) {
                most = tried.leastHas();
                best = friend;
            }
        }
        return best;
    }

    public int hush(int n) {
        int refusal = rangeRefusal(n, 0, MOST_BEST_HOURS);
        if (refusal != ALLOWED) {
            return refused(refusal);
        }
        int best = NONE;
        int most = thoughtBehind(n).together();
        for (int person = 0; person < now.size; person++) {
            Hill tried = thoughtOfNow();
            tried.hushed = 1 << person;
            tried.passHours(n);
            if (tried.together() > most) {
                most = tried.together();
                best = person;
            }
        }
        return best;
    }

    public int fewest(int n) {
        int refusal = rangeRefusal(n, 0, MOST_DEAR_HOURS);
        if (refusal != ALLOWED) {
            return refused(refusal);
        }
        int best = NONE;
        int fewestSoFar = MOST_PEOPLE + 1;
        for (int people = 0; people <= now.everybody(); people++) {
            if (Integer.bitCount(people) < fewestSoFar && isWetWithHushed(people, n)) {
                fewestSoFar = Integer.bitCount(people);
                best = people;
            }
        }
        return best;
    }

    public int word(int n) {
        int refusal = rangeRefusal(n, 1, MOST_DEAR_HOURS);
        if (refusal != ALLOWED) {
            return refused(refusal);
        }
        int dearest = NONE;
        int least = thoughtBehind(n).together();
        for (int person = 0; person < now.size; person++) {
            Hill tried = thoughtOfNow();
            tried.letSpeak(person);
            tried.passHours(n);
            if (tried.together() < least) {
                least = tried.together();
                dearest = person;
            }
        }
        return dearest;
    }

    public int send(int n, int what) {
        int refusal = rangeRefusal(n, 0, MOST_DEAR_HOURS);
        if (refusal == ALLOWED) {
            refusal = whatRefusal(what, 1);
        }
        if (refusal != ALLOWED) {
            return refused(refusal);
        }
        int best = NONE;
        int most = NONE;
        for (int person = 0; person < now.size; person++) {
            int others = othersWetBySending(person, n);
            if (others > most) {
                most = others;
                best = person;
            }
        }
        return what == 0 ? best : most;
    }

    public int next() {
        return thoughtOfNow().passHourForDrawers();
    }

    public int richest(int what) {
        int refusal = whatRefusal(what, 2);
        if (refusal != ALLOWED) {
            return refused(refusal);
        }
        int first = NONE;
        for (int person = 0; person < now.size; person++) {
            if (first == NONE || rank(person, what) > rank(first, what)) {
                first = person;
            }
        }
        return first;
    }

    public int quiet(int hour) {
        int refusal = rangeRefusal(hour, 0, DAY - 1);
        if (refusal != ALLOWED) {
            return refused(refusal);
        }
        int silent = 0;
        for (int person = 0; person < now.size; person++) {
            if (now.speakingHour(person) > hour) {
                silent++;
            }
        }
        return silent;
    }

    public int thirst() {
        int sum = 0;
        for (int person = 0; person < now.size; person++) {
            sum += now.drinkOf(person);
        }
        return sum;
    }

    public int lasts(int person) {
        if (!now.isThere(person)) {
            return refused(NOBODY);
        }
        int drink = now.drinkOf(person);
        return drink <= 0 ? DRINKS_NOTHING : now.has[person] / drink;
    }

    public int carries(int what) {
        int refusal = whatRefusal(what, 1);
        if (refusal != ALLOWED) {
            return refused(refusal);
        }
        return what == 0 ? friendsOfOthers() : mutualTwos();
    }

    public int two(int a, int b, int n) {
        if (!now.isThere(a) || !now.isThere(b) || a == b) {
            return refused(NOBODY);
        }
        int refusal = rangeRefusal(n, 0, MOST_DEAR_HOURS);
        if (refusal != ALLOWED) {
            return refused(refusal);
        }
        for (int pair = 0; pair < 4; pair++) {
            int first = pair / 2;
            int other = pair % 2;
            boolean firstStays = gain(a, first, b, other, n) >= gain(a, 1 - first, b, other, n);
            if (firstStays && gain(b, other, a, first, n) >= gain(b, 1 - other, a, first, n)) {
                return 10 * first + other;
            }
        }
        return NONE;
    }

    public long sneeze(int person, int n, int t, int v, int part) {
        int refusal = sneezeRefusal(person, n, t, v, part);
        if (refusal != ALLOWED) {
            return refusedLong(refusal);
        }
        long above = 0;
        for (int sneezes = 0; sneezes < (1 << n); sneezes++) {
            if (hasBehindSneezes(person, n, sneezes) >= v) {
                above += power(t - 1, n - Integer.bitCount(sneezes));
            }
        }
        return partOfFraction(above, power(t, n), part);
    }

    public long mean(int part) {
        int refusal = whatRefusal(part, 1);
        if (refusal != ALLOWED) {
            return refusedLong(refusal);
        }
        return partOfFraction(now.together(), Math.max(1, now.size), part);
    }

    public int whatIs(int person, int what) {
        if (!now.isThere(person)) {
            return refused(NOBODY);
        }
        int refusal = whatRefusal(what, 1);
        if (refusal != ALLOWED) {
            return refused(refusal);
        }
        return what == 0 ? kindsByRow(person) : figuresByRow(person);
    }

    public int row(int v) {
        int refusal = rangeRefusal(v, 0, MOST_WATER);
        if (refusal == ALLOWED && rowSize >= MOST_ROW) {
            refusal = ROOM;
        }
        if (refusal != ALLOWED) {
            return refused(refusal);
        }
        rowNumbers[rowSize] = v;
        rowSize++;
        return rowSize;
    }

    public int judge() {
        int told = rowSize;
        rowSize = 0;
        for (int person = 0; person < told; person++) {
            if (!now.isThere(person) || now.cans[person] != rowNumbers[person]) {
                return person;
            }
        }
        return NONE;
    }

    public int clear() {
        int had = rowSize;
        rowSize = 0;
        return had;
    }

    public int lots(int n, int z, int what) {
        int refusal = rangeRefusal(n, 1, MOST_YEARS);
        if (refusal == ALLOWED) {
            refusal = whatRefusal(what, 1);
        }
        if (refusal != ALLOWED) {
            return refused(refusal);
        }
        int seed = z;
        int sum = 0;
        for (int year = 0; year < n; year++) {
            Hill later = thoughtOfNow();
            for (int day = 0; day < DAYS_OF_YEAR; day++) {
                seed = nextSeed(seed);
                later.flow = lotBelow(seed, MOST_FLOW + 1);
                later.passHours(DAY);
            }
            sum += what == 0 ? later.together() : later.countDry();
        }
        return sum;
    }

    public int image() {
        kept.copyFrom(now);
        isKept = true;
        return now.hour;
    }

    public int on() {
        if (!isKept) {
            return refused(STATE);
        }
        now.copyFrom(kept);
        return now.hour;
    }

    public int count(int what) {
        switch (what) {
            case 0: return now.size;
            case 1: return now.hour;
            case 2: return now.water;
            case 3: return now.flow;
            case 4: return now.spoken;
            case 5: return now.together();
            case 6: return rowSize;
            case 7: return telling.size;
            default: return countRefusals(what);
        }
    }

    private int countRefusals(int what) {
        if (what <= REFUSALS_COUNTED_FROM || what > REFUSALS_COUNTED_FROM + REFUSAL_NUMBERS) {
            return NONE;
        }
        return refusals[what - REFUSALS_COUNTED_FROM];
    }

    private int refused(int refusal) {
        if (refusal < 0 && refusal >= -REFUSAL_NUMBERS) {
            refusals[-refusal]++;
        }
        return refusal;
    }

    private long refusedLong(int refusal) {
        return LONG_REFUSAL - refused(refusal);
    }

    private static int rangeRefusal(int v, int least, int most) {
        if (v < least) {
            return BELOW;
        }
        return v > most ? ROOM : ALLOWED;
    }

    private static int whatRefusal(int what, int most) {
        return what < 0 || what > most ? OTHER : ALLOWED;
    }

    private int oneRefusal(int person, int v, int most) {
        return now.isThere(person) ? rangeRefusal(v, 0, most) : NOBODY;
    }

    private int sneezeRefusal(int person, int n, int t, int v, int part) {
        if (!now.isThere(person)) {
            return NOBODY;
        }
        if (n < 0 || v < 0 || t < LEAST_ODDS) {
            return BELOW;
        }
        if (n > MOST_SNEEZES || t > MOST_ODDS || v > MOST_WATER) {
            return ROOM;
        }
        return whatRefusal(part, 1);
    }

    private Hill thoughtOfNow() {
        thought.copyFrom(now);
        return thought;
    }

    private Hill thoughtBehind(int n) {
        Hill later = thoughtOfNow();
        later.passHours(n);
        return later;
    }

    private int firstDry() {
        Hill later = thoughtOfNow();
        for (int n = 0; n <= MOST_HOURS; n++) {
            for (int person = 0; person < later.size; person++) {
                if (later.has[person] == 0) {
                    return person;
                }
            }
            later.passHour(0);
        }
        return NONE;
    }

    private boolean isWetWithHushed(int people, int n) {
        Hill tried = thoughtOfNow();
        tried.hushed = people;
        return tried.staysWet(now.everybody(), n);
    }

    private int othersWetBySending(int person, int n) {
        Hill tried = thoughtOfNow();
        tried.giveToWell(person);
        tried.passHours(n);
        int wet = 0;
        for (int other = 0; other < tried.size; other++) {
            if (other != person && tried.has[other] > 0) {
                wet++;
            }
        }
        return wet;
    }

    private int rank(int person, int what) {
        switch (what) {
            case 0: return now.has[person];
            case 1: return -now.has[person];
            default: return now.speakingHour(person);
        }
    }

    private int friendsOfOthers() {
        int bits = 0;
        for (int person = 0; person < now.size; person++) {
            int friend = now.friends[person];
            if (friend != person && now.isThere(friend)) {
                bits |= 1 << friend;
            }
        }
        return bits;
    }

    private int mutualTwos() {
        int twos = 0;
        for (int person = 0; person < now.size; person++) {
            int friend = now.friends[person];
            if (friend > person && now.isThere(friend) && now.friends[friend] == person) {
                twos++;
            }
        }
        return twos;
    }

    private int gain(int person, int saysNow, int other, int otherSaysNow, int n) {
        Hill tried = thoughtOfNow();
        if (saysNow == 1) {
            tried.letSpeak(person);
        }
        if (otherSaysNow == 1) {
            tried.letSpeak(other);
        }
        tried.passHours(n);
        return tried.has[person] + WORTH_OF_SPEAKING * saysNow;
    }

    private int hasBehindSneezes(int person, int n, int sneezes) {
        Hill later = thoughtOfNow();
        for (int hour = 0; hour < n; hour++) {
            boolean sneezesNow = (sneezes >> hour & 1) == 1;
            later.passHour(sneezesNow ? 1 << person : 0);
        }
        return later.has[person];
    }

    private static long power(int base, int exponent) {
        long product = 1;
        for (int i = 0; i < exponent; i++) {
            product *= base;
        }
        return product;
    }

    private static long partOfFraction(long above, long below, int part) {
        long divisor = greatestDivisor(above, below);
        long whole = part == 0 ? above : below;
        return divisor <= 0 ? whole : whole / divisor;
    }

    private static long greatestDivisor(long a, long b) {
        long divisor = a;
        long rest = b;
        // Two longs need fewer than a hundred steps.
        for (int step = 0; step < 100 && rest != 0; step++) {
            long last = divisor % rest;
            divisor = rest;
            rest = last;
        }
        return divisor;
    }

    private int kindsByRow(int person) {
        int bits = 0;
        for (int kind = 0; kind < KINDS; kind++) {
            Hill tried = thoughtOfNow();
            tried.kinds[person] = kind;
            if (goesAsRow(tried, person)) {
                bits |= 1 << kind;
            }
        }
        return bits;
    }

    private int figuresByRow(int person) {
        int bits = 0;
        for (int figure = 0; figure <= MOST_FIGURE; figure++) {
            Hill tried = thoughtOfNow();
            tried.figures[person] = figure;
            if (goesAsRow(tried, person)) {
                bits |= 1 << figure;
            }
        }
        return bits;
    }

    private boolean goesAsRow(Hill tried, int person) {
        for (int n = 0; n < rowSize; n++) {
            if (tried.has[person] != rowNumbers[n]) {
                return false;
            }
            tried.passHour(0);
        }
        return true;
    }

    private static int nextSeed(int seed) {
        return seed * 1664525 + 1013904223;
    }

    private static int lotBelow(int seed, int bound) {
        return bound <= 0 ? 0 : (seed & WITHOUT_SIGN) / 256 % bound;
    }

    /** The people of a hill with their well, and how an hour goes by for them. */
    private static final class Hill {
        final int[] kinds = new int[MOST_PEOPLE];
        final int[] figures = new int[MOST_PEOPLE];
        final int[] cans = new int[MOST_PEOPLE];
        final int[] has = new int[MOST_PEOPLE];
        final int[] friends = new int[MOST_PEOPLE];
        int size = 0;
        int water = FIRST_WATER;
        int flow = FIRST_FLOW;
        int hour = 0;
        // Sets of people are bits, as the document answers them.
        int spoken = 0;
        int drew = 0;
        int hushed = 0;

        void copyFrom(Hill other) {
            for (int person = 0; person < other.size; person++) {
                kinds[person] = other.kinds[person];
                figures[person] = other.figures[person];
                cans[person] = other.cans[person];
                has[person] = other.has[person];
                friends[person] = other.friends[person];
            }
            size = other.size;
            water = other.water;
            flow = other.flow;
            hour = other.hour;
            spoken = other.spoken;
            drew = other.drew;
            hushed = other.hushed;
        }

        boolean isThere(int person) {
            return person >= 0 && person < size;
        }

        boolean addPerson(int kind, int figure, int can) {
            if (size >= MOST_PEOPLE) {
                return false;
            }
            kinds[size] = kind;
            figures[size] = figure;
            cans[size] = can;
            has[size] = FIRST_HAS;
            friends[size] = size;
            size++;
            return true;
        }

        // A friend need not be there yet, so any number that may come fits.
        boolean setFriend(int person, int friend) {
            if (!isThere(person) || friend < 0 || friend >= MOST_PEOPLE) {
                return false;
            }
            friends[person] = friend;
            return true;
        }

        boolean setHas(int person, int v) {
            if (!isThere(person) || v < 0 || v > MOST_WATER) {
                return false;
            }
            has[person] = v;
            return true;
        }

        boolean setWater(int v) {
            if (v < 0 || v > MOST_WATER) {
                return false;
            }
            water = v;
            return true;
        }

        boolean setFlow(int v) {
            if (v < 0 || v > MOST_FLOW) {
                return false;
            }
            flow = v;
            return true;
        }

        boolean letSpeak(int person) {
            if (!isThere(person)) {
                return false;
            }
            spoken |= 1 << person;
            return true;
        }

        int everybody() {
            return (1 << size) - 1;
        }

        boolean hasSpoken(int person) {
            return (spoken >> person & 1) == 1;
        }

        boolean hasDrawn(int person) {
            return (drew >> person & 1) == 1;
        }

        boolean isHushed(int person) {
            return (hushed >> person & 1) == 1;
        }

        int speakingHour(int person) {
            int hourOfPerson = figures[person] / 2 + 1;
            int hourOfWife = Math.min(DAY, hourOfPerson + 3);
            switch (kinds[person]) {
                case WIFE: return hourOfWife;
                case SCOLD: return 0;
                case MUTE: return DAY;
                case PRIEST: return Math.min(DAY, 2 * hourOfWife);
                case LIAR: return 0;
                default: return hourOfPerson;
            }
        }

        int drinkOf(int person) {
            int drinkOfPerson = 3;
            int drinkOfWife = 2;
            switch (kinds[person]) {
                case WIFE: return drinkOfWife;
                case SCOLD: return drinkOfPerson + 1;
                case MUTE: return drinkOfWife;
                case PRIEST: return drinkOfWife - 1;
                case LIAR: return drinkOfPerson + 1;
                default: return drinkOfPerson;
            }
        }

        // One who is hushed is a mute in all but what he drinks, so a hushed liar is none.
        boolean drawsThoughSpoken(int person) {
            return kinds[person] == LIAR && !isHushed(person);
        }

        // Only in thought may the hour pass the last one.
        boolean mayPass(int n) {
            return n >= 1 && n <= MOST_HOURS && hour + n <= LAST_HOUR;
        }

        void passHours(int n) {
            for (int i = 0; i < n; i++) {
                passHour(0);
            }
        }

        void passHour(int sneezing) {
            int hourOfDay = hour % DAY;
            if (hourOfDay == 0) {
                beginDay();
            }
            spoken |= sneezing;
            letSpeakAt(hourOfDay);
            for (int person = 0; person < size; person++) {
                if (mayDraw(person)) {
                    letDraw(person);
                }
            }
            if (hourOfDay == DAY - 1) {
                letDrink();
            }
            hour++;
        }

        int passHourForDrawers() {
            // Dawn takes back who drew before, so those count again in its hour.
            int before = hour % DAY == 0 ? 0 : drew;
            passHour(0);
            return drew & ~before;
        }

        private void beginDay() {
            spoken = 0;
            drew = 0;
            water = Math.min(MOST_WATER, water + flow);
        }

        private void letSpeakAt(int hourOfDay) {
            for (int person = 0; person < size; person++) {
                if (!isHushed(person) && speakingHour(person) == hourOfDay) {
                    spoken |= 1 << person;
                }
            }
        }

        private boolean mayDraw(int person) {
            boolean mayBySpeech = !hasSpoken(person) || drawsThoughSpoken(person);
            return mayBySpeech && !hasDrawn(person) && has[person] < HAS_ENOUGH;
        }

        private void letDraw(int person) {
            int drawn = Math.min(cans[person], water);
            if (drawn <= 0) {
                return;
            }
            water -= drawn;
            has[person] += drawn;
            drew |= 1 << person;
            if (givesToFriend(person)) {
                int friend = friends[person];
                has[person] -= drawn / 2;
                has[friend] = Math.min(MOST_WATER, has[friend] + drawn / 2);
            }
        }

        private boolean givesToFriend(int person) {
            int friend = friends[person];
            return friend != person && isThere(friend) && hasSpoken(friend)
                && has[friend] < has[person];
        }

        private void letDrink() {
            for (int person = 0; person < size; person++) {
                has[person] = Math.max(0, has[person] - drinkOf(person));
            }
        }

        void giveToWell(int person) {
            water = Math.min(MOST_WATER, water + has[person]);
            has[person] = 0;
        }

        int together() {
            int sum = 0;
            for (int person = 0; person < size; person++) {
                sum += has[person];
            }
            return sum;
        }

        int leastHas() {
            int least = MOST_WATER;
            for (int person = 0; person < size; person++) {
                least = Math.min(least, has[person]);
            }
            return least;
        }

        int countDry() {
            return Integer.bitCount(dryPeople());
        }

        private int dryPeople() {
            int bits = 0;
            for (int person = 0; person < size; person++) {
                if (has[person] == 0) {
                    bits |= 1 << person;
                }
            }
            return bits;
        }

        boolean staysWet(int people, int n) {
            for (int i = 0; i <= n; i++) {
                if ((dryPeople() & people) != 0) {
                    return false;
                }
                passHour(0);
            }
            return true;
        }
    }

    /** The letters told so far, and how they come to a hill. */
    private static final class Telling {
        private static final int NO_LETTER = -1;

        private final int[] letters = new int[MOST_LETTERS];
        int size = 0;

        boolean add(int letter) {
            if (size >= MOST_LETTERS) {
                return false;
            }
            letters[size] = letter;
            size++;
            return true;
        }

        void forget() {
            size = 0;
        }

        /** The place of the first letter with which no hill can go on, or NONE. */
        int firstWrongLetter() {
            if (size == 0) {
                return 0;
            }
            int place = 0;
            while (place < size) {
                String shape = shapeBehind(letterAt(place));
                if (shape.isEmpty()) {
                    return place;
                }
                place++;
                for (int i = 0; i < shape.length(); i++) {
                    if (!fits(shape.charAt(i), letterAt(place))) {
                        return place;
                    }
                    place++;
                }
            }
            return NONE;
        }

        /** Lets all statements come to the hill: the place of the first that can't, or NONE. */
        int firstWrongStatement(Hill hill) {
            int place = 0;
            while (place < size) {
                if (!letCome(hill, place)) {
                    return place;
                }
                place += 1 + shapeBehind(letterAt(place)).length();
            }
            return NONE;
        }

        int statements() {
            int sum = 0;
            for (int place = 0; place < size; place++) {
                if (letters[place] == ';') {
                    sum++;
                }
            }
            return sum;
        }

        private int letterAt(int place) {
            return place >= 0 && place < size ? letters[place] : NO_LETTER;
        }

        private int digitAt(int place) {
            return letterAt(place) - '0';
        }

        private int twoDigitsAt(int place) {
            return 10 * digitAt(place) + digitAt(place + 1);
        }

        /** What stands behind a statement's first letter: k a kind, d a digit; empty if no such. */
        private static String shapeBehind(int letter) {
            switch (letter) {
                case 'p': return "kdd;";
                case 'f': return "dd;";
                case 'g': return "ddd;";
                case 'w': return "dd;";
                case 'l': return "dd;";
                case 's': return "d;";
                case 'h': return "dd;";
                default: return "";
            }
        }

        private static boolean fits(char sign, int letter) {
            switch (sign) {
                case 'k': return kindOf(letter) >= 0;
                case 'd': return letter >= '0' && letter <= '9';
                default: return letter == sign;
            }
        }

        private static int kindOf(int letter) {
            return letter < 0 ? -1 : KIND_LETTERS.indexOf((char) letter);
        }

        private boolean letCome(Hill hill, int place) {
            int kind = kindOf(letterAt(place + 1));
            int digit = digitAt(place + 1);
            int twoDigits = twoDigitsAt(place + 1);
            switch (letterAt(place)) {
                case 'p': return hill.addPerson(kind, digitAt(place + 2), digitAt(place + 3));
                case 'f': return hill.setFriend(digit, digitAt(place + 2));
                case 'g': return hill.setHas(digit, twoDigitsAt(place + 2));
                case 'w': return hill.setWater(twoDigits);
                case 'l': return hill.setFlow(twoDigits);
                case 's': return hill.letSpeak(digit);
                default: break;
            }
            if (!hill.mayPass(twoDigits)) {
                return false;
            }
            hill.passHours(twoDigits);
            return true;
        }
    }
}
