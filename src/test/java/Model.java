import java.math.BigInteger;
import java.util.ArrayList;
import java.util.List;
import java.util.function.Predicate;
import java.util.function.ToIntFunction;
import java.util.regex.Matcher;
import java.util.regex.Pattern;
import java.util.stream.IntStream;

/**
 * The document told a second time, in another way and with the whole Java library, so that runs
 * by lot can be looked at. Its methods bear the names of the class's.
 */
public final class Model {
    private record One(int kind, int figure, int can, int has, boolean spoken, boolean drew, int friend, boolean hushed) {
        One with(String what, int v) {
            return new One(what.equals("kind") ? v : kind, what.equals("figure") ? v : figure,
                what.equals("can") ? v : can, what.equals("has") ? v : has,
                what.equals("spoken") ? v == 1 : spoken, what.equals("drew") ? v == 1 : drew,
                what.equals("friend") ? v : friend, what.equals("hushed") ? v == 1 : hushed);
        }

        int speaksAt() {
            if (hushed) {
                return 12;
            }
            int person = figure / 2 + 1;
            return new int[] {person, person + 3, 0, 12, Math.min(12, 2 * person + 6), 0}[kind];
        }

        int drinks() {
            return new int[] {3, 2, 4, 2, 1, 4}[kind];
        }

        boolean liar() {
            return kind == 5 && !hushed;
        }
    }

    private record World(List<One> people, int water, int flow, int hour) {
        World change(int person, String what, int v) {
            List<One> changed = new ArrayList<>(people);
            changed.set(person, changed.get(person).with(what, v));
            return new World(changed, water, flow, hour);
        }

        World changeAll(String what, int v) {
            return new World(people.stream().map(one -> one.with(what, v)).toList(), water, flow, hour);
        }

        World water(int v) {
            return new World(people, v, flow, hour);
        }

        World flow(int v) {
            return new World(people, water, v, hour);
        }

        World plus(One one) {
            List<One> more = new ArrayList<>(people);
            more.add(one);
            return new World(more, water, flow, hour);
        }

        World anHour(int sneezer) {
            World w = this;
            int hourOfDay = hour % 12;
            if (hourOfDay == 0) {
                w = w.changeAll("spoken", 0).changeAll("drew", 0).water(Math.min(99, water + flow));
            }
            for (int i = 0; i < people.size(); i++) {
                if (people.get(i).speaksAt() == hourOfDay || i == sneezer) {
                    w = w.change(i, "spoken", 1);
                }
            }
            for (int i = 0; i < people.size(); i++) {
                w = w.draws(i);
            }
            for (int i = 0; i < people.size() && hourOfDay == 11; i++) {
                One one = w.people.get(i);
                w = w.change(i, "has", Math.max(0, one.has - one.drinks()));
            }
            return new World(w.people, w.water, w.flow, hour + 1);
        }

        private World draws(int i) {
            One one = people.get(i);
            if (one.drew || one.spoken && !one.liar() || one.has >= 20) {
                return this;
            }
            int drawn = Math.min(one.can, water);
            World w = water(water - drawn).change(i, "has", one.has + drawn).change(i, "drew", drawn > 0 ? 1 : 0);
            if (one.friend == i || one.friend >= people.size()) {
                return w;
            }
            One friend = w.people.get(one.friend);
            if (!friend.spoken || friend.has >= one.has + drawn) {
                return w;
            }
            return w.change(i, "has", one.has + drawn - drawn / 2)
                .change(one.friend, "has", Math.min(99, friend.has + drawn / 2));
        }

        List<World> hours(int n) {
            List<World> all = new ArrayList<>(List.of(this));
            for (int i = 0; i < n; i++) {
                all.add(all.get(i).anHour(-1));
            }
            return all;
        }

        World behind(int n) {
            return hours(n).get(n);
        }

        int all() {
            return people.stream().mapToInt(One::has).sum();
        }

        int bits(Predicate<One> which) {
            return IntStream.range(0, people.size()).filter(i -> which.test(people.get(i))).map(i -> 1 << i).sum();
        }

        boolean wet(int n, int who) {
            return hours(n).stream().allMatch(w -> (w.bits(one -> one.has == 0) & who) == 0);
        }
    }

    private World world = new World(List.of(), 20, 10, 0);
    private World kept = null;
    private List<Integer> row = new ArrayList<>();
    private StringBuilder letters = new StringBuilder();
    private final int[] refusals = new int[7];

    private int no(int refusal) {
        refusals[-refusal]++;
        return refusal;
    }

    private long noLong(int refusal) {
        return 4000000000000000000L - no(refusal);
    }

    private boolean nobody(int person) {
        return person < 0 || person >= world.people.size();
    }

    private One one(int person) {
        return world.people.get(person);
    }

    private int firstBest(ToIntFunction<Integer> worth, int least) {
        int best = -9;
        for (int i = 0; i < world.people.size(); i++) {
            if (worth.applyAsInt(i) > (best < 0 ? least : worth.applyAsInt(best))) {
                best = i;
            }
        }
        return best;
    }

    public int letter(int c) {
        if (c < 0) return no(-4);
        if (c > 255 || letters.length() == 96) return no(-6);
        return letters.append((char) c).length();
    }

    private static final Pattern STATEMENT = Pattern.compile("p[pwsmtl]\\d\\d;|f\\d\\d;|g\\d\\d\\d;|[wlh]\\d\\d;|s\\d;");

    public int hill() {
        String text = letters.toString();
        letters = new StringBuilder();
        Matcher matcher = Pattern.compile("(" + STATEMENT.pattern() + ")+").matcher(text);
        if (!matcher.matches()) {
            for (int place = 0; place <= text.length(); place++) {
                matcher = Pattern.compile("(" + STATEMENT.pattern() + ")+").matcher(text.substring(0, Math.min(text.length(), place + 1)));
                if (place == text.length() || !matcher.matches() && !matcher.hitEnd()) return -1000 - place;
            }
        }
        World w = world;
        int statements = 0;
        Matcher each = STATEMENT.matcher(text);
        while (each.find()) {
            w = statement(w, each.group());
            if (w == null) return -2000 - each.start();
            statements++;
        }
        world = w;
        return statements;
    }

    private static World statement(World w, String s) {
        char first = s.charAt(0);
        if (first == 'p') {
            One come = new One("pwsmtl".indexOf(s.charAt(1)), s.charAt(2) - '0', s.charAt(3) - '0', 5, false, false, w.people.size(), false);
            return w.people.size() == 6 ? null : w.plus(come);
        }
        int number = Integer.parseInt(s.substring(1, s.length() - 1));
        int person = s.charAt(1) - '0';
        if ("fgs".indexOf(first) >= 0 && person >= w.people.size()) return null;
        if (first == 'f') return number % 10 > 5 ? null : w.change(person, "friend", number % 10);
        if (first == 'g') return w.change(person, "has", number % 100);
        if (first == 's') return w.change(person, "spoken", 1);
        if (first == 'w') return w.water(number);
        if (first == 'l') return number > 30 ? null : w.flow(number);
        return number < 1 || number > 60 || w.hour + number > 999 ? null : w.behind(number);
    }

    public int person(int person, int what) {
        if (nobody(person)) return no(-1);
        if (what < 0 || what > 8) return no(-2);
        One o = one(person);
        return new int[] {o.kind, o.figure, o.can, o.has, o.spoken ? 1 : 0, o.drew ? 1 : 0, o.friend, o.speaksAt(), o.drinks()}[what];
    }

    public int speaks(int person) {
        if (nobody(person)) return no(-1);
        if (one(person).spoken) return no(-3);
        world = world.change(person, "spoken", 1);
        return (int) world.people.stream().filter(One::spoken).count();
    }

    public int befriends(int person, int friend) {
        if (nobody(person) || friend < 0 || friend > 5) return no(-1);
        int was = one(person).friend;
        world = world.change(person, "friend", friend);
        return was;
    }

    public int pours(int person, int v) {
        if (nobody(person)) return no(-1);
        if (v < 0) return no(-4);
        if (v > 99) return no(-6);
        int was = one(person).has;
        world = world.change(person, "has", v);
        return was;
    }

    public int cans(int person, int v) {
        if (nobody(person)) return no(-1);
        if (v < 0) return no(-4);
        if (v > 9) return no(-6);
        int was = one(person).can;
        world = world.change(person, "can", v);
        return was;
    }

    public int water(int v) {
        if (v < 0) return no(-4);
        if (v > 99) return no(-6);
        int was = world.water;
        world = world.water(v);
        return was;
    }

    public int flow(int v) {
        if (v < 0) return no(-4);
        if (v > 30) return no(-6);
        int was = world.flow;
        world = world.flow(v);
        return was;
    }

    public int turn(int person, int kind, int figure) {
        if (nobody(person)) return no(-1);
        if (kind < 0 || kind > 5) return no(-2);
        if (figure < 0) return no(-4);
        if (figure > 9) return no(-6);
        int was = one(person).kind * 10 + one(person).figure;
        world = world.change(person, "kind", kind).change(person, "figure", figure);
        return was;
    }

    public int hours(int n) {
        if (n < 1) return no(-4);
        if (n > 60 || world.hour + n > 999) return no(-6);
        world = world.behind(n);
        return world.water;
    }

    public int hasThen(int person, int n) {
        if (nobody(person)) return no(-1);
        if (n < 0) return no(-4);
        if (n > 60) return no(-6);
        return world.behind(n).people.get(person).has;
    }

    public int then(int n, int what) {
        if (n < 0) return no(-4);
        if (n > 60) return no(-6);
        if (what < 0 || what > 3) return no(-2);
        World w = world.behind(n);
        return new int[] {w.water, w.bits(One::spoken), w.bits(One::drew), w.all()}[what];
    }

    public int dry(int person) {
        if (person < -1 || person >= world.people.size()) return no(-1);
        List<World> hours = world.hours(60);
        for (int n = 0; n <= 60; n++) {
            int dry = hours.get(n).bits(o -> o.has == 0);
            if (person == -1 && dry != 0) return Integer.numberOfTrailingZeros(dry);
            if (person >= 0 && (dry >> person) % 2 == 1) return n;
        }
        return -9;
    }

    public int empty() {
        List<World> hours = world.hours(60);
        return IntStream.rangeClosed(0, 60).filter(n -> hours.get(n).water == 0).findFirst().orElse(-9);
    }

    public int flowBest(int n) {
        if (n < 0) return no(-4);
        if (n > 48) return no(-6);
        return IntStream.rangeClosed(0, 30).filter(f -> world.flow(f).wet(n, 63)).findFirst().orElse(-9);
    }

    public int canBest(int person, int n) {
        if (nobody(person)) return no(-1);
        if (n < 0) return no(-4);
        if (n > 48) return no(-6);
        return IntStream.rangeClosed(0, 9).filter(c -> world.change(person, "can", c).wet(n, 1 << person)).findFirst().orElse(-9);
    }

    public int friendBest(int person, int n) {
        if (nobody(person)) return no(-1);
        if (n < 0) return no(-4);
        if (n > 48) return no(-6);
        ToIntFunction<World> least = w -> w.behind(n).people.stream().mapToInt(One::has).min().orElseThrow();
        return firstBest(f -> f == person ? -1 : least.applyAsInt(world.change(person, "friend", f)), least.applyAsInt(world));
    }

    public int hush(int n) {
        if (n < 0) return no(-4);
        if (n > 48) return no(-6);
        return firstBest(i -> world.change(i, "hushed", 1).behind(n).all(), world.behind(n).all());
    }

    public int fewest(int n) {
        if (n < 0) return no(-4);
        if (n > 24) return no(-6);
        for (int size = 0; size <= world.people.size(); size++) {
            for (int bits = 0; bits < 1 << world.people.size(); bits++) {
                World w = world;
                for (int i = 0; i < w.people.size(); i++) {
                    w = w.change(i, "hushed", bits >> i & 1);
                }
                if (Integer.bitCount(bits) == size && w.wet(n, 63)) return bits;
            }
        }
        return -9;
    }

    public int word(int n) {
        if (n < 1) return no(-4);
        if (n > 24) return no(-6);
        return firstBest(i -> -world.change(i, "spoken", 1).behind(n).all(), -world.behind(n).all());
    }

    public int send(int n, int what) {
        if (n < 0) return no(-4);
        if (n > 24) return no(-6);
        if (what != 0 && what != 1) return no(-2);
        ToIntFunction<Integer> wet = i -> {
            World sent = world.water(Math.min(99, world.water + one(i).has)).change(i, "has", 0).behind(n);
            return Integer.bitCount(sent.bits(o -> o.has > 0) & ~(1 << i));
        };
        int who = firstBest(wet, -1);
        return what == 0 || who < 0 ? who : wet.applyAsInt(who);
    }

    public int next() {
        World before = world.hour % 12 == 0 ? world.changeAll("drew", 0) : world;
        return before.anHour(-1).bits(One::drew) - before.bits(One::drew);
    }

    public int richest(int what) {
        if (what < 0 || what > 2) return no(-2);
        return firstBest(i -> new int[] {one(i).has, -one(i).has, one(i).speaksAt()}[what], -1000);
    }

    public int quiet(int hour) {
        if (hour < 0) return no(-4);
        if (hour > 11) return no(-6);
        return (int) world.people.stream().filter(o -> o.speaksAt() > hour).count();
    }

    public int thirst() {
        return world.people.stream().mapToInt(One::drinks).sum();
    }

    public int lasts(int person) {
        return nobody(person) ? no(-1) : one(person).has / one(person).drinks();
    }

    public int carries(int what) {
        if (what != 0 && what != 1) return no(-2);
        int bits = 0;
        int twos = 0;
        for (int a = 0; a < world.people.size(); a++) {
            for (int b = 0; b < world.people.size(); b++) {
                if (a != b && one(a).friend == b) {
                    bits |= 1 << b;
                    twos += a < b && one(b).friend == a ? 1 : 0;
                }
            }
        }
        return what == 0 ? bits : twos;
    }

    public int two(int a, int b, int n) {
        if (nobody(a) || nobody(b) || a == b) return no(-1);
        if (n < 0) return no(-4);
        if (n > 24) return no(-6);
        int[][] gains = new int[4][];
        for (int pair = 0; pair < 4; pair++) {
            World w = world;
            if (pair >= 2) w = w.change(a, "spoken", 1);
            if (pair % 2 == 1) w = w.change(b, "spoken", 1);
            w = w.behind(n);
            gains[pair] = new int[] {w.people.get(a).has + 2 * (pair / 2), w.people.get(b).has + 2 * (pair % 2)};
        }
        return IntStream.range(0, 4).filter(p -> gains[p][0] >= gains[p ^ 2][0] && gains[p][1] >= gains[p ^ 1][1])
            .map(p -> p / 2 * 10 + p % 2).findFirst().orElse(-9);
    }

    public long sneeze(int person, int n, int t, int v, int part) {
        if (nobody(person)) return noLong(-1);
        if (n < 0 || v < 0 || t < 2) return noLong(-4);
        if (n > 7 || t > 20 || v > 99) return noLong(-6);
        if (part != 0 && part != 1) return noLong(-2);
        return part(likely(world, person, n, t, v), BigInteger.valueOf(t).pow(n), part);
    }

    private static BigInteger likely(World w, int person, int n, int t, int v) {
        if (n == 0) return w.people.get(person).has >= v ? BigInteger.ONE : BigInteger.ZERO;
        return likely(w.anHour(person), person, n - 1, t, v)
            .add(likely(w.anHour(-1), person, n - 1, t, v).multiply(BigInteger.valueOf(t - 1)));
    }

    private static long part(BigInteger above, BigInteger below, int part) {
        return (part == 0 ? above : below).divide(above.gcd(below)).longValueExact();
    }

    public long mean(int part) {
        if (part != 0 && part != 1) return noLong(-2);
        return world.people.isEmpty() ? part
            : part(BigInteger.valueOf(world.all()), BigInteger.valueOf(world.people.size()), part);
    }

    public int whatIs(int person, int what) {
        if (nobody(person)) return no(-1);
        if (what != 0 && what != 1) return no(-2);
        return IntStream.range(0, what == 0 ? 6 : 10).filter(c -> {
            List<World> hours = world.change(person, what == 0 ? "kind" : "figure", c).hours(16);
            return IntStream.range(0, row.size()).allMatch(n -> hours.get(n).people.get(person).has == row.get(n));
        }).map(c -> 1 << c).sum();
    }

    public int row(int v) {
        if (v < 0) return no(-4);
        if (v > 99 || row.size() == 16) return no(-6);
        row.add(v);
        return row.size();
    }

    public int judge() {
        List<Integer> told = row;
        row = new ArrayList<>();
        return IntStream.range(0, told.size()).filter(i -> nobody(i) || one(i).can != told.get(i)).findFirst().orElse(-9);
    }

    public int clear() {
        int had = row.size();
        row = new ArrayList<>();
        return had;
    }

    public int lots(int n, int z, int what) {
        if (n < 1) return no(-4);
        if (n > 20) return no(-6);
        if (what != 0 && what != 1) return no(-2);
        long seed = z & 0xffffffffL;
        int sum = 0;
        for (int year = 0; year < n; year++) {
            World w = world;
            for (int i = 0; i < 4; i++) {
                seed = (seed * 1664525 + 1013904223) % (1L << 32);
                w = w.flow((int) (seed % (1L << 31) / 256 % 31)).behind(12);
            }
            sum += what == 0 ? w.all() : Integer.bitCount(w.bits(o -> o.has == 0));
        }
        return sum;
    }

    public int image() {
        kept = world;
        return world.hour;
    }

    public int on() {
        if (kept == null) return no(-3);
        world = kept;
        return world.hour;
    }

    public int count(int what) {
        if (what >= 11 && what <= 16) return refusals[what - 10];
        if (what < 0 || what > 7) return -9;
        return new int[] {world.people.size(), world.hour, world.water, world.flow, world.bits(One::spoken),
            world.all(), row.size(), letters.length()}[what];
    }
}
