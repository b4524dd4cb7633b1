import java.math.BigInteger;
import java.util.ArrayList;
import java.util.HashMap;
import java.util.List;
import java.util.Map;
import java.util.function.Predicate;
import java.util.regex.Matcher;
import java.util.regex.Pattern;

/** The document once more, written for the eye and not for the machine: every WEEK is a new state, nothing is held. */
public final class Model {
    private static final int BAD = -1, STATE = -2, FULL = -3, NONE = -4;

    record Thing(int kind, int weight, int worth, boolean taken) {
        int heft() {
            int plain = weight;
            int awkward = 2 * plain;
            return new int[] {plain, awkward, plain / 2 + plain % 2, awkward - 1}[kind];
        }

        int pays() {
            int plain = worth;
            int awkward = plain;
            return new int[] {plain, awkward, plain < 2 ? 0 : plain - 2, 2 * awkward}[kind];
        }

        Thing taken(boolean t) {
            return new Thing(kind, weight, worth, t);
        }
    }

    record Person(int strength, int wages) {
    }

    record Outcome(Stock after, List<List<Integer>> arms, int bent) {
        boolean took(int g) {
            return arms.stream().anyMatch(a -> a.contains(g));
        }

        int takings() {
            return arms.stream().mapToInt(List::size).sum();
        }
    }

    record Stock(List<Thing> things, List<Person> people, int hooter, int brings, int week) {
        int wages() {
            return people.stream().mapToInt(Person::wages).sum();
        }

        int least() {
            return people.stream().mapToInt(Person::wages).min().orElse(0);
        }

        int store() {
            int bits = 0;
            for (int g = 0; g < things.size(); g++) {
                bits += things.get(g).taken() ? 0 : 1 << g;
            }
            return bits;
        }

        Stock with(int g, Thing t) {
            List<Thing> all = new ArrayList<>(things);
            all.set(g, t);
            return new Stock(all, people, hooter, brings, week);
        }

        Stock with(int p, Person one) {
            List<Person> all = new ArrayList<>(people);
            all.set(p, one);
            return new Stock(things, all, hooter, brings, week);
        }

        Stock hooting(int h) {
            return new Stock(things, people, h, brings, week);
        }

        int heftOf(List<Integer> arm) {
            return arm.stream().mapToInt(g -> things.get(g).heft()).sum();
        }

        int paysOf(List<Integer> arm) {
            return arm.stream().mapToInt(g -> things.get(g).pays()).sum();
        }

        Outcome next(int ill) {
            List<Thing> shelf = new ArrayList<>(things);
            List<List<Integer>> arms = new ArrayList<>();
            people.forEach(p -> arms.add(new ArrayList<>()));
            for (int round = 1; round <= hooter; round++) {
                for (int p = 0; p < people.size(); p++) {
                    if ((ill & 1 << p) != 0) {
                        continue;
                    }
                    int choice = -1;
                    for (int g = shelf.size() - 1; g >= 0; g--) {
                        boolean fits = heftOf(arms.get(p)) + shelf.get(g).heft() <= people.get(p).strength();
                        boolean better = choice < 0 || shelf.get(g).pays() >= shelf.get(choice).pays();
                        if (!shelf.get(g).taken() && fits && better) {
                            choice = g;
                        }
                    }
                    if (choice >= 0) {
                        arms.get(p).add(choice);
                        shelf.set(choice, shelf.get(choice).taken(true));
                    }
                }
            }
            int bent = 0;
            List<Person> paid = new ArrayList<>();
            for (int p = 0; p < people.size(); p++) {
                Person one = people.get(p);
                boolean isBent = heftOf(arms.get(p)) == one.strength();
                bent += isBent ? 1 : 0;
                int strength = isBent && one.strength() > 1 ? one.strength() - 1 : one.strength();
                int wages = one.wages() + paysOf(arms.get(p));
                paid.add(new Person(strength, wages > 999 ? 999 : wages));
            }
            int left = brings;
            for (int g = 0; g < shelf.size(); g++) {
                if (shelf.get(g).taken() && left > 0) {
                    shelf.set(g, shelf.get(g).taken(false));
                    left--;
                }
            }
            return new Outcome(new Stock(shelf, paid, hooter, brings, week + 1), arms, bent);
        }

        Stock behind(int n) {
            return n == 0 ? this : next(0).after().behind(n - 1);
        }
    }

    private Stock now = fresh();
    private final StringBuilder tape = new StringBuilder();
    private int fault = 0;
    private int torn = 0;
    private final List<int[]> seen = new ArrayList<>();
    private final Map<Integer, Stock> images = new HashMap<>();
    private final Object[] sheets = new Object[4];

    private static Stock fresh() {
        return new Stock(List.of(), List.of(), 2, 2, 0);
    }

    private static boolean in(int v, int a, int b) {
        return a <= v && v <= b;
    }

    private boolean noGood(int g) {
        return !in(g, 0, now.things().size() - 1);
    }

    private boolean noOne(int p) {
        return !in(p, 0, now.people().size() - 1);
    }

    public int feed(int c) {
        if (!in(c, 0, 127)) {
            return BAD;
        }
        if (tape.length() == 160) {
            return FULL;
        }
        tape.append((char) c);
        return tape.length();
    }

    public int end(int n) {
        if (!in(n, 0, tape.length())) {
            return BAD;
        }
        int had = tape.length();
        tape.setLength(n);
        return had;
    }

    /** A fault on its way out of the reading. */
    private static final class Refusal extends Exception {
        private static final long serialVersionUID = 1L;
        final int fault;
        final int place;

        Refusal(int fault, int place) {
            this.fault = fault;
            this.place = place;
        }
    }

    /** The tokens of the text, read one at a time. */
    private static final class Words {
        private final Matcher m;
        private final String s;
        private int at = 0;
        int place;
        String token;

        Words(String s) {
            this.s = s;
            this.m = Pattern.compile(" *([a-z]+|[0-9]+|;)").matcher(s);
        }

        boolean more() throws Refusal {
            if (s.substring(at).isBlank() && s.substring(at).chars().allMatch(c -> c == ' ')) {
                place = s.length();
                token = "";
                return false;
            }
            m.region(at, s.length());
            if (!m.lookingAt()) {
                int bad = at;
                while (s.charAt(bad) == ' ') {
                    bad++;
                }
                throw new Refusal(1, bad);
            }
            token = m.group(1);
            place = m.start(1);
            at = m.end();
            if (Character.isDigit(token.charAt(0)) && token.length() > 2) {
                throw new Refusal(1, place);
            }
            return true;
        }

        int number(int a, int b) throws Refusal {
            if (!more() || !token.matches("[0-9]+")) {
                throw new Refusal(2, place);
            }
            int v = Integer.parseInt(token);
            if (!in(v, a, b)) {
                throw new Refusal(3, place);
            }
            return v;
        }
    }

    public int text() {
        String s = tape.toString();
        tape.setLength(0);
        try {
            int lines = parse(new Words(s));
            fault = 0;
            seen.clear();
            images.clear();
            return lines;
        } catch (Refusal r) {
            fault = r.fault;
            return -10 - r.place;
        }
    }

    private int parse(Words w) throws Refusal {
        List<Thing> things = new ArrayList<>();
        List<Person> people = new ArrayList<>();
        int hooter = -1;
        int brings = -1;
        int lines = 0;
        List<String> kinds = List.of("plain", "awkward", "feather", "crate");
        while (w.more()) {
            String head = w.token;
            int kind = kinds.indexOf(head);
            if (kind < 0 && !List.of("one", "hooter", "brings").contains(head)) {
                throw new Refusal(2, w.place);
            }
            if (head.equals("hooter") && hooter >= 0 || head.equals("brings") && brings >= 0) {
                throw new Refusal(4, w.place);
            }
            if (kind >= 0 && things.size() == 8 || head.equals("one") && people.size() == 4) {
                throw new Refusal(5, w.place);
            }
            if (kind >= 0) {
                int weight = w.number(1, 9);
                things.add(new Thing(kind, weight, w.number(0, 9), false));
            } else if (head.equals("one")) {
                people.add(new Person(w.number(1, 20), 0));
            } else if (head.equals("hooter")) {
                hooter = w.number(0, 6);
            } else {
                brings = w.number(0, 8);
            }
            if (!w.more() || !w.token.equals(";")) {
                throw new Refusal(2, w.place);
            }
            lines++;
        }
        now = new Stock(things, people, hooter < 0 ? 2 : hooter, brings < 0 ? 2 : brings, 0);
        return lines;
    }

    public int fault() {
        return fault;
    }

    public int rule(int what) {
        if (!in(what, 0, 6)) {
            return BAD;
        }
        return new int[] {now.things().size(), now.people().size(), now.week(), now.hooter(), now.brings(), now.store(),
            now.wages()}[what];
    }

    public int good(int g, int what) {
        if (noGood(g) || !in(what, 0, 5)) {
            return BAD;
        }
        Thing t = now.things().get(g);
        return new int[] {t.kind(), t.weight(), t.worth(), t.taken() ? 1 : 0, t.heft(), t.pays()}[what];
    }

    public int one(int p, int what) {
        if (noOne(p) || !in(what, 0, 3)) {
            return BAD;
        }
        List<Integer> arm = now.next(0).arms().get(p);
        Person one = now.people().get(p);
        return new int[] {one.strength(), one.wages(), arm.stream().mapToInt(g -> 1 << g).sum(), now.heftOf(arm)}[what];
    }

    public int alter(int g, int what, int v) {
        if (noGood(g) || !in(what, 0, 2)) {
            return BAD;
        }
        Thing t = now.things().get(g);
        int[] parts = {t.kind(), t.weight(), t.worth()};
        if (!in(v, new int[] {0, 1, 0}[what], new int[] {3, 9, 9}[what])) {
            return BAD;
        }
        int was = parts[what];
        parts[what] = v;
        now = now.with(g, new Thing(parts[0], parts[1], parts[2], t.taken()));
        return was;
    }

    public int train(int p, int what, int v) {
        if (noOne(p) || !in(what, 0, 1) || !in(v, 1 - what, what == 0 ? 20 : 999)) {
            return BAD;
        }
        Person one = now.people().get(p);
        now = now.with(p, what == 0 ? new Person(v, one.wages()) : new Person(one.strength(), v));
        return what == 0 ? one.strength() : one.wages();
    }

    public int set(int what, int v) {
        if (!in(what, 0, 1) || !in(v, 0, what == 0 ? 6 : 8)) {
            return BAD;
        }
        int was = what == 0 ? now.hooter() : now.brings();
        now = new Stock(now.things(), now.people(), what == 0 ? v : now.hooter(), what == 1 ? v : now.brings(), now.week());
        return was;
    }

    public int stock(int kind, int weight, int worth) {
        if (!in(kind, 0, 3) || !in(weight, 1, 9) || !in(worth, 0, 9)) {
            return BAD;
        }
        if (now.things().size() == 8) {
            return FULL;
        }
        List<Thing> more = new ArrayList<>(now.things());
        more.add(new Thing(kind, weight, worth, false));
        now = new Stock(more, now.people(), now.hooter(), now.brings(), now.week());
        return more.size();
    }

    public int hide(int g) {
        if (noGood(g)) {
            return BAD;
        }
        if (now.things().get(g).taken()) {
            return STATE;
        }
        now = now.with(g, now.things().get(g).taken(true));
        return 1;
    }

    public int fill() {
        int were = 0;
        for (int g = 0; g < now.things().size(); g++) {
            were += now.things().get(g).taken() ? 1 : 0;
            now = now.with(g, now.things().get(g).taken(false));
        }
        return were;
    }

    public int weeks(int n) {
        if (!in(n, 0, 30)) {
            return BAD;
        }
        if (now.week() + n >= 1000) {
            return FULL;
        }
        int before = now.wages();
        now = now.behind(n);
        return now.wages() - before;
    }

    public int runs(int n, int what) {
        if (!in(n, 0, 60) || !in(what, 0, 4)) {
            return BAD;
        }
        int bent = 0;
        int takings = 0;
        Stock s = now;
        for (int i = 0; i < n; i++) {
            Outcome o = s.next(0);
            bent += o.bent();
            takings += o.takings();
            s = o.after();
        }
        return new int[] {s.wages() - now.wages(), s.store(), bent, takings, s.least()}[what];
    }

    public int ahead(int p, int n, int what) {
        if (noOne(p) || !in(n, 0, 60) || !in(what, 0, 1)) {
            return BAD;
        }
        Person one = now.behind(n).people().get(p);
        return what == 0 ? one.wages() : one.strength();
    }

    public int gone(int g) {
        if (noGood(g)) {
            return BAD;
        }
        Stock s = now;
        for (int n = 0; n <= 60; n++) {
            Outcome o = s.next(0);
            if (o.took(g)) {
                return n;
            }
            s = o.after();
        }
        return NONE;
    }

    public int rich(int p, int v) {
        if (noOne(p) || !in(v, 0, 999)) {
            return BAD;
        }
        Stock s = now;
        for (int n = 0; n <= 60; n++) {
            if (s.people().get(p).wages() >= v) {
                return n;
            }
            s = s.behind(1);
        }
        return NONE;
    }

    public int arms(int p, int what) {
        if (noOne(p) || !in(what, 0, 2)) {
            return BAD;
        }
        int[] best = null;
        for (int bits = 255; bits >= 0; bits--) {
            List<Integer> arm = new ArrayList<>();
            for (int g = 0; g < 8; g++) {
                if ((bits >> g) % 2 == 1) {
                    arm.add(g);
                }
            }
            if ((bits | now.store()) == now.store() && now.heftOf(arm) <= now.people().get(p).strength()
                && (best == null || now.paysOf(arm) >= best[1])) {
                best = new int[] {bits, now.paysOf(arm), now.heftOf(arm)};
            }
        }
        return best[what];
    }

    public int need(int p, int g) {
        if (noOne(p) || noGood(g)) {
            return BAD;
        }
        for (int s = 1; s <= 20; s++) {
            if (now.with(p, new Person(s, now.people().get(p).wages())).next(0).arms().get(p).contains(g)) {
                return s;
            }
        }
        return NONE;
    }

    public int fair(int n, int what) {
        if (!in(n, 0, 60) || !in(what, 0, 1)) {
            return BAD;
        }
        if (now.people().isEmpty()) {
            return STATE;
        }
        int[] best = {6, now.hooting(6).behind(n).least()};
        for (int h = 5; h >= 0; h--) {
            int least = now.hooting(h).behind(n).least();
            if (least >= best[1]) {
                best = new int[] {h, least};
            }
        }
        return best[what];
    }

    private int best(Map<Integer, Stock> ways, int floor, int n, int what) {
        int most = floor;
        for (Stock s : ways.values()) {
            most = Math.max(most, s.behind(n).wages());
        }
        if (most == floor) {
            return NONE;
        }
        final int top = most;
        int first = ways.keySet().stream().filter(k -> ways.get(k).behind(n).wages() == top).min(Integer::compare).get();
        return what == 0 ? first : top - now.wages();
    }

    public int swap(int n, int what) {
        if (!in(n, 0, 60) || !in(what, 0, 1)) {
            return BAD;
        }
        Map<Integer, Stock> ways = new HashMap<>();
        for (int p = 0; p < now.people().size(); p++) {
            for (int q = 0; q < p; q++) {
                ways.put(10 * q + p, now.with(p, now.people().get(q)).with(q, now.people().get(p)));
            }
        }
        return best(ways, now.behind(n).wages(), n, what);
    }

    public int lose(int n, int what) {
        if (!in(n, 0, 60) || !in(what, 0, 1)) {
            return BAD;
        }
        Map<Integer, Stock> ways = new HashMap<>();
        for (int g = 0; g < now.things().size(); g++) {
            if (!now.things().get(g).taken()) {
                ways.put(g, now.with(g, now.things().get(g).taken(true)));
            }
        }
        return best(ways, now.behind(n).wages(), n, what);
    }

    private Stock withKind(int g, int k) {
        Thing t = now.things().get(g);
        return now.with(g, new Thing(k, t.weight(), t.worth(), t.taken()));
    }

    public int price(int g) {
        if (noGood(g)) {
            return BAD;
        }
        Thing t = now.things().get(g);
        for (int v = 0; v <= 9; v++) {
            if (now.with(g, new Thing(t.kind(), t.weight(), v, t.taken())).next(0).took(g)) {
                return v;
            }
        }
        return NONE;
    }

    public int kind(int g, int n, int what) {
        if (noGood(g) || !in(n, 0, 60) || !in(what, 0, 1)) {
            return BAD;
        }
        Map<Integer, Stock> ways = new HashMap<>();
        for (int k = 0; k < 4; k++) {
            ways.put(k, withKind(g, k));
        }
        return best(ways, -1, n, what);
    }

    private static long part(BigInteger num, BigInteger den, int what) {
        BigInteger d = num.gcd(den);
        return (what == 0 ? num : den).divide(d).longValueExact();
    }

    private BigInteger odds(int v, int ill) {
        int sick = Integer.bitCount(ill);
        return BigInteger.valueOf(v).pow(sick).multiply(BigInteger.valueOf(10 - v).pow(now.people().size() - sick));
    }

    public long luck(int v, int g, int what) {
        if (!in(v, 0, 10) || noGood(g) || !in(what, 0, 1)) {
            return BAD;
        }
        BigInteger sum = BigInteger.ZERO;
        for (int ill = 0; ill < 1 << now.people().size(); ill++) {
            if (now.next(ill).took(g)) {
                sum = sum.add(odds(v, ill));
            }
        }
        return part(sum, BigInteger.TEN.pow(now.people().size()), what);
    }

    private BigInteger gains(Stock s, int v, int n) {
        if (n == 0) {
            return BigInteger.valueOf(s.wages() - now.wages());
        }
        BigInteger sum = BigInteger.ZERO;
        for (int ill = 0; ill < 1 << now.people().size(); ill++) {
            sum = sum.add(odds(v, ill).multiply(gains(s.next(ill).after(), v, n - 1)));
        }
        return sum;
    }

    public long mean(int v, int n, int what) {
        if (!in(v, 0, 10) || !in(n, 0, 2) || !in(what, 0, 1)) {
            return BAD;
        }
        return part(gains(now, v, n), BigInteger.TEN.pow(n * now.people().size()), what);
    }

    public int see(int n, int p, int v) {
        if (!in(n, 0, 20) || noOne(p) || !in(v, 0, 999)) {
            return BAD;
        }
        if (seen.size() == 6) {
            return FULL;
        }
        seen.add(new int[] {n, p, v});
        return seen.size();
    }

    public int forget(int n) {
        int had = seen.size();
        if (!in(n, 0, had)) {
            return BAD;
        }
        seen.subList(n, had).clear();
        return had;
    }

    private boolean asSeen(Stock s) {
        return seen.stream().allMatch(a -> s.behind(a[0]).people().get(a[1]).wages() == a[2]);
    }

    private static int bits(int a, int b, Predicate<Integer> p) {
        int bits = 0;
        for (int i = a; i <= b; i++) {
            bits += p.test(i) ? 1 << i : 0;
        }
        return bits;
    }

    public int kinds(int g) {
        return noGood(g) ? BAD : bits(0, 3, k -> asSeen(withKind(g, k)));
    }

    public int weights(int g) {
        if (noGood(g)) {
            return BAD;
        }
        Thing t = now.things().get(g);
        return bits(1, 9, w -> asSeen(now.with(g, new Thing(t.kind(), w, t.worth(), t.taken()))));
    }

    private Stock withStrength(int p, int s) {
        return now.with(p, new Person(s, now.people().get(p).wages()));
    }

    public int strengths(int p) {
        return noOne(p) ? BAD : bits(1, 20, s -> asSeen(withStrength(p, s)));
    }

    public int ask(int p, int what) {
        if (noOne(p) || !in(what, 0, 1)) {
            return BAD;
        }
        List<Stock> left = new ArrayList<>();
        for (int s = 1; s <= 20; s++) {
            if (asSeen(withStrength(p, s))) {
                left.add(withStrength(p, s));
            }
        }
        int[] best = {NONE, left.size()};
        for (int n = 0; n <= 20; n++) {
            for (int q = 0; q < now.people().size(); q++) {
                Map<Integer, Integer> groups = new HashMap<>();
                for (Stock s : left) {
                    groups.merge(s.people().get(q).wages(), 1, Integer::sum);
                }
                int worst = groups.values().stream().max(Integer::compare).orElse(0);
                if (worst < best[1]) {
                    best = new int[] {10 * n + q, worst};
                }
            }
            left.replaceAll(s -> s.behind(1));
        }
        return best[0] == NONE ? NONE : best[what];
    }

    public int drift(int seed, int n, int what) {
        if (!in(n, 1, 60) || !in(what, 0, 1)) {
            return BAD;
        }
        if (now.things().isEmpty()) {
            return STATE;
        }
        Stock s = now;
        long x = seed;
        int bent = 0;
        for (int i = 0; i < n; i++) {
            x = (x * 1103515245L + 12345L) & 0xffffffffL;
            int got = (int) (x / 65536 % 32768);
            int g = got / 8 % s.things().size();
            Thing t = s.things().get(g);
            Outcome o = s.hooting(got % 7).with(g, new Thing(t.kind(), got / 64 % 9 + 1, t.worth(), t.taken())).next(0);
            bent += o.bent();
            s = o.after();
        }
        return what == 0 ? s.wages() - now.wages() : bent;
    }

    public int keep(int k) {
        if (!in(k, 0, 1)) {
            return BAD;
        }
        return images.put(k, now) == null ? 0 : 1;
    }

    public int back(int k) {
        if (!in(k, 0, 1)) {
            return BAD;
        }
        if (!images.containsKey(k)) {
            return STATE;
        }
        now = images.get(k);
        return now.week();
    }

    // The sheets are real arrays here, and the machine itself finds the faults.

    public int sheet(int k, int lane, int n) {
        if (!in(k, 0, 3) || !in(lane, 0, 2) || n > 40) {
            return BAD;
        }
        try {
            sheets[k] = lane == 0 ? new byte[n] : lane == 1 ? new short[n] : new int[n];
            return 1;
        } catch (NegativeArraySizeException e) {
            return -14;
        }
    }

    public int lay(int k, int i, int v) {
        if (!in(k, 0, 3)) {
            return BAD;
        }
        try {
            if (sheets[k] instanceof byte[] b) {
                b[i] = (byte) v;
            } else if (sheets[k] instanceof short[] s) {
                s[i] = (short) v;
            } else {
                ((int[]) sheets[k])[i] = v;
            }
            return 1;
        } catch (NullPointerException e) {
            return -11;
        } catch (ArrayIndexOutOfBoundsException e) {
            return -12;
        }
    }

    private static int cell(Object sheet, int lane, int i) {
        return lane == 0 ? ((byte[]) sheet)[i] : lane == 1 ? ((short[]) sheet)[i] : ((int[]) sheet)[i];
    }

    public int read(int k, int lane, int f, int n) {
        if (!in(k, 0, 3) || !in(lane, 0, 2) || !in(n, 0, 13)) {
            return BAD;
        }
        Stock before = now;
        int came = 0;
        int found = 0;
        try {
            for (; came < n; came++) {
                int at = f + 3 * came;
                int kind = cell(sheets[k], lane, at);
                int weight = cell(sheets[k], lane, at + 1);
                int worth = cell(sheets[k], lane, at + 2);
                if (stock(kind, weight, worth) < 0) {
                    now = before;
                    return -20 - came;
                }
            }
        } catch (NullPointerException e) {
            found = 1;
        } catch (ArrayIndexOutOfBoundsException e) {
            found = 2;
        } catch (ClassCastException e) {
            found = 3;
        }
        torn = found;
        return came;
    }

    public int torn() {
        return torn;
    }

    public int count(int what) {
        if (!in(what, 0, 5)) {
            return BAD;
        }
        int cells = sheets[0] == null ? NONE : java.lang.reflect.Array.getLength(sheets[0]);
        return new int[] {seen.size(), images.size(), tape.length(), cells,
            now.things().stream().mapToInt(Thing::worth).sum(),
            now.people().stream().mapToInt(Person::strength).sum()}[what];
    }
}
