import java.math.BigInteger;
import java.util.ArrayList;
import java.util.List;
import java.util.Random;
import java.util.function.LongSupplier;
import java.util.regex.Pattern;

/**
 * Long runs of calls by chance, each answer against a model that follows the document's words
 * without any thought of cost, and by other ways than the program's where there are some.
 */
public final class ModelTest {
    private static final int NONE = -1, UNKNOWN = -101, OUTSIDE = -102, STATE = -103, FULL = -104;
    private static final int RUNS = 400;
    private static final int CALLS = 512;
    private static final int[] EDGES = {
        -1, 0, 1, 2, 3, 4, 5, 6, 7, 8, 9, 10, 11, 12, 13, 20, 21, 32, 60, 61, 126, 127, Integer.MIN_VALUE, Integer.MAX_VALUE};

    private static int failures = 0;

    public static void main(String[] args) {
        for (int run = 0; run < RUNS && failures < 20; run++) {
            oneRun(run);
        }
        System.out.println(failures == 0 ? "all answers are the model's" : "some answers are not the model's");
        if (failures != 0) {
            System.exit(1);
        }
    }

    private static void oneRun(int run) {
        Random chance = new Random(run);
        LastBench program = new LastBench();
        Model model = new Model();
        List<String> calls = new ArrayList<>();
        String spelling = "";
        for (int n = 0; n < CALLS; n++) {
            if (spelling.isEmpty() && chance.nextInt(model.chapel == null ? 4 : 120) == 0) {
                spelling = text(chance);
                if (!model.page.isEmpty() && chance.nextInt(8) != 0) {
                    compare(run, calls, "blank()", program::blank, model::blank);
                    continue;
                }
            }
            boolean same;
            if (!spelling.isEmpty()) {
                int code = spelling.charAt(0);
                spelling = spelling.substring(1);
                same = compare(run, calls, "letter(" + code + ")", () -> program.letter(code), () -> model.letter(code));
                if (same && spelling.isEmpty()) {
                    same = compare(run, calls, "fault()", program::fault, model::fault)
                        && compare(run, calls, "chapel()", program::chapel, model::chapel);
                    n += 2;
                }
            } else {
                same = oneCall(run, calls, chance, program, model);
            }
            if (!same) {
                return;
            }
        }
    }

    private static boolean compare(int run, List<String> calls, String call, LongSupplier got, LongSupplier want) {
        calls.add(call);
        long due = want.getAsLong();
        long answer = got.getAsLong();
        if (answer != due) {
            failures++;
            System.out.println("run " + run + ", call " + calls.size() + ": " + call + " answered " + answer + ", the model says " + due);
            System.out.println("  behind " + calls.subList(Math.max(0, calls.size() - 40), calls.size()));
        }
        return answer == due;
    }

    /** A chapel's text; one of five is spoilt at one place. */
    private static String text(Random chance) {
        StringBuilder s = new StringBuilder();
        s.append(1 + chance.nextInt(6)).append(';');
        int people = 2 + chance.nextInt(5);
        for (int p = 0; p < people; p++) {
            s.append(p == 0 ? "" : ",").append("pghbs".charAt(chance.nextInt(5))).append(chance.nextInt(10));
        }
        s.append(';');
        int wrongs = 1 + chance.nextInt(8);
        for (int w = 0; w < wrongs; w++) {
            int did = chance.nextInt(people);
            int whom = (did + 1 + chance.nextInt(people - 1)) % people;
            s.append(w == 0 ? "" : ",").append(did).append(whom).append(1 + chance.nextInt(chance.nextBoolean() ? 9 : 3));
        }
        if (chance.nextInt(5) == 0) {
            String signs = "0123456789,;pghbsx ";
            char sign = signs.charAt(chance.nextInt(signs.length()));
            int place = chance.nextInt(s.length());
            switch (chance.nextInt(3)) {
                case 0 -> s.setCharAt(place, sign);
                case 1 -> s.insert(place, sign);
                default -> s.deleteCharAt(place);
            }
        }
        return s.toString();
    }

    private static int number(Random chance, int least, int most) {
        return chance.nextInt(8) == 0 ? EDGES[chance.nextInt(EDGES.length)] : least + chance.nextInt(most - least + 1);
    }

    private static boolean oneCall(int run, List<String> calls, Random chance, LastBench x, Model y) {
        int person = number(chance, 0, Math.max(0, y.people() - 1));
        int other = number(chance, 0, Math.max(0, y.people() - 1));
        int wrong = number(chance, 0, Math.max(0, y.wrongs() - 1));
        int kind = number(chance, 0, 4);
        int grave = number(chance, 1, 9);
        int room = number(chance, 1, 6);
        int warm = number(chance, 0, 20);
        int tenths = number(chance, 0, 10);
        int seed = chance.nextInt(4) == 0 ? EDGES[chance.nextInt(EDGES.length)] : chance.nextInt() >>> 1;
        int six = number(chance, 0, 5);
        int three = number(chance, 0, 2);
        int two = number(chance, 0, 1);
        boolean sits = chance.nextBoolean();
        switch (chance.nextInt(27)) {
            case 0: return compare(run, calls, "letter(" + warm + ")", () -> x.letter(warm), () -> y.letter(warm));
            case 1: return chance.nextInt(4) != 0 || compare(run, calls, "blank()", x::blank, y::blank);
            case 2: return compare(run, calls, "fault()", x::fault, y::fault);
            case 3: return compare(run, calls, "chapel()", x::chapel, y::chapel);
            case 4: return compare(run, calls, "person(" + person + ", " + six + ")", () -> x.person(person, six), () -> y.person(person, six));
            case 5: return compare(run, calls, "as(" + person + ", " + kind + ")", () -> x.as(person, kind), () -> y.as(person, kind));
            case 6: case 7: return compare(run, calls, "wrong(" + wrong + ", " + six + ")", () -> x.wrong(wrong, six), () -> y.wrong(wrong, six));
            case 8: return compare(run, calls, "to(" + person + ", " + other + ")", () -> x.to(person, other), () -> y.to(person, other));
            case 9: return compare(run, calls, "sunday()", x::sunday, y::sunday);
            case 10: return compare(run, calls, "forgive(" + wrong + ")", () -> x.forgive(wrong), () -> y.forgive(wrong));
            case 11: case 12: return compare(run, calls, "again(" + wrong + ", " + grave + ")", () -> x.again(wrong, grave), () -> y.again(wrong, grave));
            case 13: return compare(run, calls, "room(" + room + ")", () -> x.room(room), () -> y.room(room));
            case 14: return compare(run, calls, "change(" + person + ", " + kind + ", " + warm + ")", () -> x.change(person, kind, warm), () -> y.change(person, kind, warm));
            case 15: return compare(run, calls, "leave(" + room + ", " + three + ")", () -> x.leave(room, three), () -> y.leave(room, three));
            case 16: return compare(run, calls, "ring()", x::ring, y::ring);
            case 17: return compare(run, calls, "peace(" + two + ")", () -> x.peace(two), () -> y.peace(two));
            case 18: return compare(run, calls, "odds(" + person + ", " + tenths + ", " + two + ")", () -> x.odds(person, tenths, two), () -> y.odds(person, tenths, two));
            case 19: case 20: return compare(run, calls, "see(" + wrong + ", " + room + ", " + sits + ")", () -> x.see(wrong, room, sits), () -> y.see(wrong, room, sits));
            case 21: return chance.nextInt(4) != 0 || compare(run, calls, "forget()", x::forget, y::forget);
            case 22: {
                int sundays = number(chance, 1, 60);
                return compare(run, calls, "winters(" + sundays + ", " + seed + ", " + three + ")", () -> x.winters(sundays, seed, three), () -> y.winters(sundays, seed, three));
            }
            case 23: return compare(run, calls, "image()", x::image, y::image);
            case 24: return chance.nextInt(3) != 0 || compare(run, calls, "restore()", x::restore, y::restore);
            case 25: {
                int what = number(chance, 0, 12);
                return compare(run, calls, "count(" + what + ")", () -> x.count(what), () -> y.count(what));
            }
            default: return compare(run, calls, "digest()", x::digest, y::digest);
        }
    }

    private record Person(int kind, int warm, int froze) { }

    private record Wrong(int did, int whom, int grave, boolean forgiven) { }

    private record Seen(int wrong, int room, boolean sits) { }

    /** A chapel at one time; what is done to it makes another one. */
    private record Chapel(int room, List<Person> people, List<Wrong> wrongs, int sundays, List<Seen> seen) {
        Chapel withRoom(int other) {
            return new Chapel(other, people, wrongs, sundays, seen);
        }

        Chapel withPerson(int number, Person person) {
            List<Person> all = new ArrayList<>(people);
            all.set(number, person);
            return new Chapel(room, all, wrongs, sundays, seen);
        }

        Chapel withWrong(int number, Wrong wrong) {
            List<Wrong> all = new ArrayList<>(wrongs);
            all.set(number, wrong);
            return new Chapel(room, people, all, sundays, seen);
        }

        Chapel withGrave(int number, int grave) {
            Wrong w = wrongs.get(number);
            return withWrong(number, new Wrong(w.did, w.whom, grave, w.forgiven));
        }

        Chapel withForgiven(int number, boolean forgiven) {
            Wrong w = wrongs.get(number);
            return withWrong(number, new Wrong(w.did, w.whom, w.grave, forgiven));
        }

        Chapel withSeen(List<Seen> other) {
            return new Chapel(room, people, wrongs, sundays, other);
        }

        int guilt(int person) {
            int open = wrongs.stream().filter(w -> w.did == person && !w.forgiven).mapToInt(Wrong::grave).sum();
            int forgiven = (int) wrongs.stream().filter(w -> w.did == person && w.forgiven).count();
            return switch ("pghbs".charAt(people.get(person).kind)) {
                case 'g' -> open / 2;
                case 'h' -> open + forgiven;
                case 'b' -> open == 0 ? 1 : open;
                case 's' -> 0;
                default -> open;
            };
        }

        /** Those who sit, in the order of their seats. */
        List<Integer> bench() {
            List<Integer> all = new ArrayList<>();
            for (int p = 0; p < people.size(); p++) {
                if (guilt(p) >= 1) {
                    all.add(p);
                }
            }
            all.sort((a, b) -> guilt(a) != guilt(b) ? guilt(b) - guilt(a) : a - b);
            return all.subList(0, Math.min(room, all.size()));
        }

        Chapel afterSunday() {
            List<Integer> bench = bench();
            List<Person> all = new ArrayList<>();
            for (int p = 0; p < people.size(); p++) {
                Person who = people.get(p);
                int warm = bench.contains(p) ? who.warm + 2 : who.warm - 1;
                warm = warm > 20 ? 20 : warm < 0 ? 0 : warm;
                all.add(new Person(who.kind, warm, who.froze + (warm == 0 ? 1 : 0)));
            }
            return new Chapel(room, all, wrongs, sundays + 1, seen);
        }

        int froze() {
            return people.stream().mapToInt(Person::froze).sum();
        }

        int warm() {
            return people.stream().mapToInt(Person::warm).sum();
        }

        int leastWarm() {
            return people.stream().mapToInt(Person::warm).min().getAsInt();
        }

        /** The fewest grudges between any two (and back to oneself), by all middle ones in turn. */
        int[][] distances() {
            int n = people.size();
            int[][] d = new int[n][n];
            for (int[] row : d) {
                java.util.Arrays.fill(row, 1000);
            }
            for (Wrong w : wrongs) {
                if (!w.forgiven) {
                    d[w.whom][w.did] = 1;
                }
            }
            for (int k = 0; k < n; k++) {
                for (int i = 0; i < n; i++) {
                    for (int j = 0; j < n; j++) {
                        d[i][j] = Math.min(d[i][j], d[i][k] + d[k][j]);
                    }
                }
            }
            return d;
        }

        int ringLength() {
            int[][] d = distances();
            int least = 1000;
            for (int p = 0; p < people.size(); p++) {
                least = Math.min(least, d[p][p]);
            }
            return least == 1000 ? NONE : least;
        }

        /** Of 10 to the number of wrongs still to be drawn, how many parts have him sit. */
        BigInteger parts(int person, int tenths, int from) {
            if (from == wrongs.size()) {
                return bench().contains(person) ? BigInteger.ONE : BigInteger.ZERO;
            }
            if (wrongs.get(from).forgiven) {
                return parts(person, tenths, from + 1);
            }
            BigInteger yes = withForgiven(from, true).parts(person, tenths, from + 1);
            BigInteger no = parts(person, tenths, from + 1);
            return yes.multiply(BigInteger.valueOf(tenths)).add(no.multiply(BigInteger.valueOf(10 - tenths)));
        }

        List<Integer> graves(int wrong) {
            List<Integer> all = new ArrayList<>();
            for (int grave = 1; grave <= 9; grave++) {
                Chapel such = withGrave(wrong, grave);
                if (seen.stream().allMatch(s -> s.wrong != wrong || such.wouldSit(wrong, s.room) == s.sits)) {
                    all.add(grave);
                }
            }
            return all;
        }

        boolean wouldSit(int wrong, int withRoom) {
            return withRoom(withRoom).bench().contains(wrongs.get(wrong).did);
        }

        int look(int wrong) {
            List<Integer> graves = graves(wrong);
            int best = NONE;
            int fewest = 1000;
            for (int r = 1; r <= 6 && !graves.isEmpty(); r++) {
                int withRoom = r;
                int yes = (int) graves.stream().filter(g -> withGrave(wrong, g).wouldSit(wrong, withRoom)).count();
                int worst = Math.max(yes, graves.size() - yes);
                if (worst < fewest) {
                    fewest = worst;
                    best = r;
                }
            }
            return best;
        }
    }

    private static final class Model {
        private static final Pattern CHAPEL = Pattern.compile(
            "[1-6];[pghbs][0-9](,[pghbs][0-9]){1,5};[0-5][0-5][1-9](,[0-5][0-5][1-9]){0,7}");
        private static final String[] REST = endings();

        String page = "";
        Chapel chapel = null;
        Chapel image = null;
        int read = 0;
        int left = 0;

        /** What is enough to end any beginning of a chapel. */
        private static String[] endings() {
            List<String> all = new ArrayList<>();
            for (String whole : new String[] {"1;p1,p1;011", "1;p1,p1;101"}) {
                for (int from = 0; from <= whole.length(); from++) {
                    all.add(whole.substring(from));
                }
            }
            return all.toArray(new String[0]);
        }

        private static boolean isChapel(String text) {
            if (!CHAPEL.matcher(text).matches()) {
                return false;
            }
            String[] parts = text.split(";");
            int people = parts[1].split(",").length;
            for (String w : parts[2].split(",")) {
                if (w.charAt(0) == w.charAt(1) || w.charAt(0) - '0' >= people || w.charAt(1) - '0' >= people) {
                    return false;
                }
            }
            return true;
        }

        private static boolean canBegin(String text) {
            for (String rest : REST) {
                if (isChapel(text + rest)) {
                    return true;
                }
            }
            return false;
        }

        int people() {
            return chapel == null ? 0 : chapel.people.size();
        }

        int wrongs() {
            return chapel == null ? 0 : chapel.wrongs.size();
        }

        private boolean noPerson(int person) {
            return person < 0 || person >= people();
        }

        private boolean noWrong(int wrong) {
            return wrong < 0 || wrong >= wrongs();
        }

        long letter(int code) {
            if (code < 1 || code > 126) return OUTSIDE;
            if (page.length() == 54) return FULL;
            page += (char) code;
            return page.length();
        }

        long blank() {
            int had = page.length();
            page = "";
            return had;
        }

        long fault() {
            for (int n = 1; n <= page.length(); n++) {
                if (!canBegin(page.substring(0, n))) return n - 1;
            }
            return page.length();
        }

        long chapel() {
            if (!isChapel(page)) return STATE;
            String[] parts = page.split(";");
            List<Person> people = new ArrayList<>();
            for (String p : parts[1].split(",")) {
                people.add(new Person("pghbs".indexOf(p.charAt(0)), p.charAt(1) - '0', 0));
            }
            List<Wrong> wrongs = new ArrayList<>();
            for (String w : parts[2].split(",")) {
                wrongs.add(new Wrong(w.charAt(0) - '0', w.charAt(1) - '0', w.charAt(2) - '0', false));
            }
            chapel = new Chapel(Integer.parseInt(parts[0]), people, wrongs, 0, List.of());
            image = null;
            page = "";
            read++;
            return people.size();
        }

        long person(int person, int what) {
            if (noPerson(person)) return UNKNOWN;
            if (what < 0 || what > 5) return OUTSIDE;
            Person who = chapel.people.get(person);
            return switch (what) {
                case 0 -> who.kind;
                case 1 -> who.warm;
                case 2 -> chapel.guilt(person);
                case 3 -> chapel.bench().contains(person) ? 1 : 0;
                case 4 -> who.froze;
                default -> chapel.wrongs.stream().filter(w -> w.whom == person && !w.forgiven)
                    .mapToInt(Wrong::did).distinct().map(d -> 1 << d).sum();
            };
        }

        long as(int person, int kind) {
            if (noPerson(person)) return UNKNOWN;
            if (kind < 0 || kind > 4) return OUTSIDE;
            String such = new String[] {"p", "pg", "ph", "pb", "pgs"}[chapel.people.get(person).kind];
            return such.indexOf("pghbs".charAt(kind)) >= 0 ? person : NONE;
        }

        long wrong(int wrong, int what) {
            if (noWrong(wrong)) return UNKNOWN;
            if (what < 0 || what > 5) return OUTSIDE;
            Wrong w = chapel.wrongs.get(wrong);
            return switch (what) {
                case 0 -> w.did;
                case 1 -> w.whom;
                case 2 -> w.grave;
                case 3 -> w.forgiven ? 1 : 0;
                case 4 -> chapel.graves(wrong).stream().mapToInt(g -> 1 << g >> 1).sum();
                default -> chapel.look(wrong);
            };
        }

        long to(int from, int to) {
            if (noPerson(from) || noPerson(to) || from == to) return UNKNOWN;
            int d = chapel.distances()[from][to];
            return d >= 1000 ? NONE : d;
        }

        long sunday() {
            if (chapel == null) return STATE;
            if (chapel.sundays == 999) return FULL;
            int froze = chapel.froze();
            chapel = chapel.afterSunday();
            return chapel.froze() - froze;
        }

        long forgive(int wrong) {
            if (noWrong(wrong)) return UNKNOWN;
            if (chapel.wrongs.get(wrong).forgiven) return STATE;
            chapel = chapel.withForgiven(wrong, true);
            return chapel.guilt(chapel.wrongs.get(wrong).did);
        }

        long again(int wrong, int grave) {
            if (noWrong(wrong)) return UNKNOWN;
            if (grave < 1 || grave > 9) return OUTSIDE;
            chapel = chapel.withGrave(wrong, grave).withForgiven(wrong, false);
            return chapel.guilt(chapel.wrongs.get(wrong).did);
        }

        long room(int room) {
            if (room < 1 || room > 6) return OUTSIDE;
            if (chapel == null) return STATE;
            int was = chapel.room;
            chapel = chapel.withRoom(room);
            return was;
        }

        long change(int person, int kind, int warm) {
            if (noPerson(person)) return UNKNOWN;
            if (kind < 0 || kind > 4 || warm < 0 || warm > 20) return OUTSIDE;
            Person who = chapel.people.get(person);
            chapel = chapel.withPerson(person, new Person(kind, warm, who.froze));
            return who.kind;
        }

        long leave(int sundays, int what) {
            if (sundays < 1 || sundays > 6 || what < 0 || what > 2) return OUTSIDE;
            if (chapel == null || left == 20) return STATE;
            left++;
            long best = Long.MAX_VALUE;
            long[] told = null;
            for (int bits = 0; bits < 1 << wrongs(); bits++) {
                Chapel then = chapel;
                for (int w = 0; w < wrongs(); w++) {
                    then = then.withForgiven(w, (bits >> w & 1) == 0);
                }
                for (int day = 0; day < sundays; day++) {
                    then = then.afterSunday();
                }
                int freeze = then.froze() - chapel.froze();
                // One number for all that is weighed, the weightiest first: the least is the best.
                long weight = ((freeze * 100L + 50 - then.leastWarm()) * 100L + Integer.bitCount(bits)) * 1000L + bits;
                if (weight < best) {
                    best = weight;
                    told = new long[] {freeze, then.leastWarm(), bits};
                }
            }
            return told[what];
        }

        long ring() {
            return chapel == null ? STATE : chapel.ringLength();
        }

        long peace(int what) {
            if (what < 0 || what > 1) return OUTSIDE;
            if (chapel == null) return STATE;
            for (int many = 0; many <= 8; many++) {
                for (int bits = 0; bits < 1 << wrongs(); bits++) {
                    if (Integer.bitCount(bits) == many && isPeace(bits)) {
                        return what == 0 ? many : bits;
                    }
                }
            }
            return Long.MIN_VALUE;
        }

        private boolean isPeace(int bits) {
            Chapel then = chapel;
            for (int w = 0; w < wrongs(); w++) {
                if ((bits >> w & 1) == 1) {
                    if (chapel.wrongs.get(w).forgiven) {
                        return false;
                    }
                    then = then.withForgiven(w, true);
                }
            }
            return then.ringLength() == NONE;
        }

        long odds(int person, int tenths, int what) {
            if (noPerson(person)) return UNKNOWN;
            if (tenths < 0 || tenths > 10 || what < 0 || what > 1) return OUTSIDE;
            int open = (int) chapel.wrongs.stream().filter(w -> !w.forgiven).count();
            BigInteger above = chapel.parts(person, tenths, 0);
            BigInteger below = BigInteger.TEN.pow(open);
            BigInteger common = above.gcd(below);
            return (what == 0 ? above : below).divide(common).longValueExact();
        }

        long see(int wrong, int room, boolean sits) {
            if (noWrong(wrong)) return UNKNOWN;
            if (room < 1 || room > 6) return OUTSIDE;
            if (chapel.seen.size() == 6) return FULL;
            List<Seen> all = new ArrayList<>(chapel.seen);
            all.add(new Seen(wrong, room, sits));
            chapel = chapel.withSeen(all);
            return all.size();
        }

        long forget() {
            if (chapel == null) return 0;
            int was = chapel.seen.size();
            chapel = chapel.withSeen(List.of());
            return was;
        }

        long winters(int sundays, int seed, int what) {
            if (sundays < 1 || sundays > 60 || seed < 0 || what < 0 || what > 2) return OUTSIDE;
            if (chapel == null) return STATE;
            Chapel then = chapel;
            BigInteger drawn = BigInteger.valueOf(seed);
            for (int day = 0; day < sundays; day++) {
                drawn = drawn.multiply(BigInteger.valueOf(1103515245)).add(BigInteger.valueOf(12345)).mod(BigInteger.TWO.pow(31));
                int wrong = drawn.divide(BigInteger.valueOf(65536)).mod(BigInteger.valueOf(wrongs())).intValueExact();
                then = then.withForgiven(wrong, !then.wrongs.get(wrong).forgiven).afterSunday();
            }
            return what == 0 ? then.froze() - chapel.froze() : what == 1 ? then.warm() : drawn.longValueExact();
        }

        long image() {
            if (chapel == null) return STATE;
            image = chapel;
            return chapel.sundays;
        }

        long restore() {
            if (image == null) return STATE;
            chapel = image;
            return chapel.sundays;
        }

        long count(int what) {
            if (what < 0 || what > 12) return OUTSIDE;
            if (what == 10) return page.length();
            if (what == 11) return read;
            if (what == 12) return left;
            if (chapel == null) return 0;
            return switch (what) {
                case 0 -> people();
                case 1 -> wrongs();
                case 2 -> chapel.room;
                case 3 -> chapel.bench().size();
                case 4 -> chapel.warm();
                case 5 -> java.util.stream.IntStream.range(0, people()).map(chapel::guilt).sum();
                case 6 -> (int) chapel.wrongs.stream().filter(Wrong::forgiven).count();
                case 7 -> chapel.sundays;
                case 8 -> chapel.froze();
                default -> chapel.seen.size();
            };
        }

        long digest() {
            List<Long> numbers = new ArrayList<>();
            for (int p = 0; p < people(); p++) {
                for (int what = 0; what <= 5; what++) {
                    numbers.add(person(p, what));
                }
                numbers.add(odds(p, 4, 0));
                numbers.add(odds(p, 4, 1));
            }
            for (int w = 0; w < wrongs(); w++) {
                for (int what = 0; what <= 5; what++) {
                    numbers.add(wrong(w, what));
                }
            }
            if (chapel != null) {
                numbers.addAll(List.of(to(0, 1), to(1, 0), ring(), peace(0), peace(1)));
            }
            for (char letter : page.toCharArray()) {
                numbers.add((long) letter);
            }
            for (int what = 0; what <= 12; what++) {
                numbers.add(count(what));
            }
            long h = 1289;
            for (long number : numbers) {
                h = 31 * h + number;
            }
            return h;
        }
    }
}
