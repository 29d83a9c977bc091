import java.math.BigInteger;
import java.util.ArrayList;
import java.util.Arrays;
import java.util.List;
import java.util.Set;
import java.util.TreeSet;
import java.util.regex.Matcher;
import java.util.regex.Pattern;

/** The document again, in another way and without a thought for speed, to hold DarkShares against. */
final class Model {
    /** Never changed once it is made, so that images and undo may just hold it. */
    private record Boy(int kind, int need, int jam) { }

    private record Said(int boy, int j, int v, int ahead) { }

    private record Share(List<Integer> owner, List<Integer> jam) { }

    private record State(List<Boy> boys, List<Integer> owner, List<Said> said, List<Share> past) { }

    private static final State FIRST = new State(List.of(), grey(), List.of(), List.of());

    private State s = FIRST;
    private final State[] images = new State[2];
    private String text = "";
    private long above = 0;
    private long below = 1;
    private final int[] refused = new int[3];

    /** The call of that name; numbers it has no use for are passed over. */
    long call(String name, int... a) {
        switch (name) {
            case "night": return night();
            case "boy": return boy(a[0], a[1], a[2]);
            case "give": return give(a[0], a[1]);
            case "type": return type(a[0]);
            case "clear": return clear();
            case "read": return read();
            case "swap": return swap(a[0], a[1]);
            case "sell": return sell(a[0], a[1], a[2]);
            case "undo": return undo();
            case "of": return of(a[0], a[1]);
            case "worth": return none(a[0]) || a[1] < 0 || a[1] > 4095 ? refuse(-2) : worth(kind(a[0]), set(a[1]));
            case "whose": return cell(a[0]) ? s.owner.get(a[0]) : refuse(-10);
            case "enough": return enough();
            case "envy": return none(a[0]) ? refuse(-2) : envy(a[0]);
            case "fair": return none(a[0]) ? refuse(-2) : fair(a[0], own(a[0])) ? 1 : 0;
            case "pieces": return pieces(a[0]);
            case "swaps": return swaps(a[0]);
            case "steps": return steps();
            case "sale": return sale(a[0], a[1]);
            case "longest": return longest(a[0]);
            case "together": return together(a[0], a[1]);
            case "note": return note(a[0], a[1], a[2], a[3]);
            case "forget": return forget();
            case "is": return none(a[0]) ? refuse(-2) : bits(fits(a[0]));
            case "asks": return none(a[0]) ? refuse(-2) : asks(fits(a[0]));
            case "took": return took(a[0], a[1]);
            case "owls": return owls(a[0], a[1]);
            case "terms": return terms(a[0], a[1]);
            case "part": return a[0] == 0 ? above : a[0] == 1 ? below : refuse(-2);
            case "image": return image(a[0]);
            case "from": return from(a[0]);
            case "status": return a[0] >= 0 && a[0] < 3 ? refused[a[0]] : refuse(-1);
            case "count": return a[0] >= 0 && a[0] < 7 ? counted().get(a[0]) : refuse(-2);
            case "digest": return digest();
            default: throw new IllegalArgumentException(name);
        }
    }

    // ---- helps

    private static List<Integer> grey() {
        return new ArrayList<>(java.util.Collections.nCopies(12, -1));
    }

    private int refuse(int answer) {
        refused[answer == -3 ? 1 : answer == -4 ? 2 : 0]++;
        return answer;
    }

    private boolean none(int boy) {
        return boy < 0 || boy >= s.boys.size();
    }

    private static boolean cell(int j) {
        return j >= 0 && j < 12;
    }

    private int kind(int boy) {
        return s.boys.get(boy).kind;
    }

    private static Set<Integer> set(int bits) {
        Set<Integer> set = new TreeSet<>();
        for (int n = 0; n < 12; n++) if ((bits & 1 << n) != 0) set.add(n);
        return set;
    }

    private static int bits(Set<Integer> set) {
        int bits = 0;
        for (int n : set) bits += 1 << n;
        return bits;
    }

    private static Set<Integer> owned(List<Integer> owner, int boy) {
        Set<Integer> set = new TreeSet<>();
        for (int j = 0; j < 12; j++) if (owner.get(j) == boy) set.add(j);
        return set;
    }

    private Set<Integer> own(int boy) {
        return owned(s.owner, boy);
    }

    private static int cellWorth(int kind, int j, boolean a) {
        int small = j <= 2 ? 5 : 3;
        int sleeper = a ? 5 : 3;
        boolean middle = Set.of(4, 5, 6, 7).contains(j);
        return new int[] {3, small, middle ? 6 : 3, sleeper, middle ? 0 : small, sleeper + (j == 11 ? 2 : -1)}[kind];
    }

    private static int worth(int kind, Set<Integer> cells) {
        int sum = 0;
        for (int j : cells) sum += cellWorth(kind, j, cells.contains(j - 1));
        return sum;
    }

    private List<Integer> jams() {
        List<Integer> jams = new ArrayList<>();
        for (Boy b : s.boys) jams.add(b.jam);
        return jams;
    }

    private static List<Boy> withJam(List<Boy> boys, List<Integer> jam) {
        List<Boy> all = new ArrayList<>();
        for (int b = 0; b < boys.size(); b++) all.add(new Boy(boys.get(b).kind, boys.get(b).need, jam.get(b)));
        return all;
    }

    private void change(List<Integer> owner, List<Integer> jam) {
        List<Share> past = new ArrayList<>(s.past);
        past.add(new Share(s.owner, jams()));
        if (past.size() > 8) past.remove(0);
        s = new State(withJam(s.boys, jam), owner, s.said, past);
    }

    private static List<Integer> turned(List<Integer> owner, int i, int j) {
        List<Integer> turned = new ArrayList<>(owner);
        turned.set(i, owner.get(j));
        turned.set(j, owner.get(i));
        return turned;
    }

    // ---- a night

    private int night() {
        int were = s.boys.size();
        s = FIRST;
        return were;
    }

    private static State coming(State to, int kind, int need, int jam) {
        List<Boy> boys = new ArrayList<>(to.boys);
        boys.add(new Boy(kind, need, jam));
        return new State(boys, to.owner, to.said, List.of());
    }

    private int boy(int kind, int need, int jam) {
        if (kind < 0 || kind > 5 || need < 0 || need > 12 || jam < 0 || jam > 40) return refuse(-2);
        if (s.boys.size() == 5) return refuse(-4);
        s = coming(s, kind, need, jam);
        return s.boys.size() - 1;
    }

    private int give(int j, int boy) {
        if (!cell(j) || boy != -1 && none(boy)) return refuse(-10);
        int was = s.owner.get(j);
        List<Integer> owner = new ArrayList<>(s.owner);
        owner.set(j, boy);
        change(owner, jams());
        return was;
    }

    private int type(int c) {
        if (c < 0 || c > 127) return refuse(-2);
        if (text.length() == 150) return refuse(-4);
        text += (char) c;
        return text.length();
    }

    private int clear() {
        int had = text.length();
        text = "";
        return had;
    }

    /** Reads by what may come next: each token is held against a pattern of its own. */
    private int read() {
        Matcher m = Pattern.compile("[a-z]+|[0-9]+|[^ ]", Pattern.DOTALL).matcher(text);
        State to = FIRST;
        List<Integer> owner = grey();
        List<String> item = new ArrayList<>();
        int items = 0;
        while (m.find()) {
            item.add(m.group());
            if (!mayStand(item, items, to.boys.size())) return -10 - m.start();
            if (!m.group().equals(";")) continue;
            if (item.get(0).equals("boy")) to = coming(to, number(item, 1), number(item, 2), number(item, 3));
            for (int n = 2; item.get(0).equals("cells") && n < item.size() - 1; n++) owner.set(number(item, n), number(item, 1));
            items++;
            item.clear();
        }
        if (items == 0 || !item.isEmpty()) return -10 - text.length();
        s = new State(to.boys, owner, List.of(), List.of());
        return items;
    }

    private static int number(List<String> item, int n) {
        return item.get(n).matches("[0-9]{1,2}") ? Integer.parseInt(item.get(n)) : 1000;
    }

    /** Whether the last token of the item may stand there. */
    private static boolean mayStand(List<String> item, int items, int boys) {
        int last = item.size() - 1;
        String first = item.get(0);
        boolean stop = item.get(last).equals(";");
        if (last == 0) return items == 0 ? first.equals("night") : first.equals("cells") || first.equals("boy") && boys < 5;
        if (first.equals("night")) return last == 1 && stop;
        if (first.equals("boy")) return last == 4 ? stop : number(item, last) <= new int[] {0, 5, 12, 40}[last];
        return last == 1 ? number(item, 1) < boys : stop || number(item, last) < 12;
    }

    // ---- swaps

    private int swap(int i, int j) {
        if (!cell(i) || !cell(j) || i == j) return refuse(-2);
        int a = s.owner.get(i);
        int b = s.owner.get(j);
        if (a == -1 || b == -1 || a == b) return refuse(-3);
        change(turned(s.owner, i, j), jams());
        return 1;
    }

    private int sell(int j, int boy, int jam) {
        if (!cell(j) || none(boy) || jam < 0 || jam > 40) return refuse(-2);
        int seller = s.owner.get(j);
        List<Integer> jams = jams();
        if (seller == boy || jams.get(boy) < jam) return refuse(-3);
        jams.set(boy, jams.get(boy) - jam);
        if (seller != -1) jams.set(seller, jams.get(seller) + jam);
        List<Integer> owner = new ArrayList<>(s.owner);
        owner.set(j, boy);
        change(owner, jams);
        return jams.get(boy);
    }

    private int undo() {
        if (s.past.isEmpty()) return refuse(-3);
        int last = s.past.size() - 1;
        Share then = s.past.get(last);
        s = new State(withJam(s.boys, then.jam), then.owner, s.said, s.past.subList(0, last));
        return own(-1).size();
    }

    private int of(int boy, int what) {
        if (none(boy) || what < 0 || what > 4) return refuse(-2);
        Boy b = s.boys.get(boy);
        return new int[] {b.kind, b.need, b.jam, bits(own(boy)), worth(b.kind, own(boy))}[what];
    }

    // ---- fair

    private int enough() {
        Set<Integer> have = new TreeSet<>();
        for (int b = 0; b < s.boys.size(); b++) if (own(b).size() >= s.boys.get(b).need) have.add(b);
        return bits(have);
    }

    private int envy(int boy) {
        Set<Integer> envied = new TreeSet<>();
        for (int b = 0; b < s.boys.size(); b++) if (worth(kind(boy), own(b)) > worth(kind(boy), own(boy))) envied.add(b);
        return bits(envied);
    }

    private boolean fair(int boy, Set<Integer> cells) {
        return worth(kind(boy), cells) * s.boys.size() >= worth(kind(boy), set(4095));
    }

    private static void orders(List<Integer> ahead, int n, List<List<Integer>> all) {
        if (ahead.size() == n) all.add(ahead);
        for (int b = 0; b < n; b++) {
            if (ahead.contains(b)) continue;
            List<Integer> more = new ArrayList<>(ahead);
            more.add(b);
            orders(more, n, all);
        }
    }

    private int taking(List<Integer> order) {
        int from = 0;
        for (int boy : order) {
            Set<Integer> piece = new TreeSet<>();
            while (!fair(boy, piece)) {
                if (from == 12) return 13;
                piece.add(from++);
            }
        }
        return from;
    }

    private int pieces(int i) {
        if (i < -1) return refuse(-10);
        List<List<Integer>> all = new ArrayList<>();
        orders(List.of(), s.boys.size(), all);
        int fewest = 13;
        for (List<Integer> order : all) fewest = Math.min(fewest, taking(order));
        if (fewest == 13) return -1;
        if (i == -1) return fewest;
        if (i >= s.boys.size()) return -5;
        for (List<Integer> order : all) if (taking(order) == fewest) return order.get(i);
        throw new IllegalStateException();
    }

    private boolean gain(List<Integer> owner, int i, int j) {
        int a = owner.get(i);
        int b = owner.get(j);
        if (a == -1 || b == -1 || a == b) return false;
        List<Integer> then = turned(owner, i, j);
        return worth(kind(a), owned(then, a)) > worth(kind(a), owned(owner, a))
            && worth(kind(b), owned(then, b)) > worth(kind(b), owned(owner, b));
    }

    private List<Integer> allSwaps(List<Integer> owner) {
        List<Integer> all = new ArrayList<>();
        for (int n = 0; n < 1200; n++) if (n % 100 < 12 && n / 100 < n % 100 && gain(owner, n / 100, n % 100)) all.add(n);
        return all;
    }

    private int swaps(int k) {
        if (k < -1) return refuse(-10);
        List<Integer> all = allSwaps(s.owner);
        return k == -1 ? all.size() : k < all.size() ? all.get(k) : -5;
    }

    private int steps() {
        List<Integer> owner = s.owner;
        for (int done = 0; done < 99; done++) {
            List<Integer> all = allSwaps(owner);
            if (all.isEmpty()) return done;
            owner = turned(owner, all.get(0) / 100, all.get(0) % 100);
        }
        return 99;
    }

    private int sale(int j, int what) {
        if (!cell(j) || what < 0 || what > 1) return refuse(-2);
        int seller = s.owner.get(j);
        int best = -1;
        int most = 0;
        for (int b = s.boys.size() - 1; b >= 0; b--) {
            if (b == seller) continue;
            List<Integer> then = new ArrayList<>(s.owner);
            then.set(j, b);
            int loss = seller == -1 ? 0 : worth(kind(seller), own(seller)) - worth(kind(seller), owned(then, seller));
            int brings = worth(kind(b), owned(then, b)) - worth(kind(b), own(b)) - loss;
            if (s.boys.get(b).jam < loss || brings <= 0 || brings < most) continue;
            most = brings;
            best = b;
        }
        return best == -1 ? -1 : what == 0 ? best : most;
    }

    private int longest(int what) {
        if (what < 0 || what > 1) return refuse(-2);
        for (int length = 12; length > 0; length--) {
            for (int from = 0; from + length <= 12; from++) {
                Set<Integer> whose = new TreeSet<>(s.owner.subList(from, from + length));
                if (whose.size() == 1 && !whose.contains(-1)) return what == 0 ? from : length;
            }
        }
        return what == 0 ? -1 : 0;
    }

    private int together(int a, int b) {
        if (none(a) || none(b) || a == b) return refuse(-2);
        for (int length = 12; length > 0; length--) {
            for (int from = 0; from + length <= 12; from++) {
                if (List.of(a, b).containsAll(s.owner.subList(from, from + length))) return length;
            }
        }
        return 0;
    }

    // ---- what he said

    private int note(int boy, int j, int v, int ahead) {
        if (none(boy) || !cell(j) || v < 0 || v > 20 || ahead < 0 || ahead > 1) return refuse(-2);
        if (s.said.size() == 6) return refuse(-4);
        List<Said> said = new ArrayList<>(s.said);
        said.add(new Said(boy, j, v, ahead));
        s = new State(s.boys, s.owner, said, s.past);
        return said.size();
    }

    private int forget() {
        int were = s.said.size();
        s = new State(s.boys, s.owner, List.of(), s.past);
        return were;
    }

    private Set<Integer> fits(int boy) {
        Set<Integer> fits = new TreeSet<>(List.of(0, 1, 2, 3, 4, 5));
        for (Said n : s.said) fits.removeIf(k -> n.boy == boy && cellWorth(k, n.j, n.ahead == 1) != n.v);
        return fits;
    }

    private static int asks(Set<Integer> fits) {
        if (fits.isEmpty()) return -1;
        int[] alike = new int[12];
        for (int j = 0; j < 12; j++) {
            int[] by = new int[21];
            for (int k : fits) by[cellWorth(k, j, false)]++;
            alike[j] = Arrays.stream(by).max().getAsInt();
        }
        int fewest = Arrays.stream(alike).min().getAsInt();
        for (int j = 0; j < 12; j++) if (alike[j] == fewest) return j;
        throw new IllegalStateException();
    }

    private int took(int boy, int seen) {
        if (none(boy) || seen < 0 || seen > 4095) return refuse(-2);
        if (!set(seen).containsAll(own(boy))) return 0;
        Set<Integer> taken = set(seen);
        taken.removeAll(own(boy));
        Set<Integer> from = new TreeSet<>();
        for (int b = 0; b < s.boys.size(); b++) if (b != boy && own(b).containsAll(taken)) from.add(b);
        return bits(from);
    }

    /** Over all nights of owls: each of the four cells, apart, by its odds. */
    private int owls(int boy, int c) {
        if (none(boy) || c < 0 || c > 10) return refuse(-2);
        long sum = 0;
        for (int lost = 0; lost < 16; lost++) {
            long odds = 1;
            for (int n = 0; n < 4; n++) odds *= (lost & 1 << n) != 0 ? c : 10 - c;
            for (int j : own(boy)) {
                boolean gone = j >= 4 && j <= 7 && (lost & 1 << j - 4) != 0;
                if (!gone) sum += odds * cellWorth(kind(boy), j, own(boy).contains(j - 1));
            }
        }
        long common = BigInteger.valueOf(sum).gcd(BigInteger.valueOf(10000)).longValue();
        above = sum / common;
        below = 10000 / common;
        return 1;
    }

    private int terms(int seed, int n) {
        if (seed < 0 || seed > 999999 || n < 0 || n > 60) return refuse(-2);
        BigInteger x = BigInteger.valueOf(seed);
        int[] drawn = new int[2 * n];
        for (int t = 0; t < 2 * n; t++) {
            x = x.multiply(BigInteger.valueOf(1103515245)).add(BigInteger.valueOf(12345)).mod(BigInteger.TWO.pow(31));
            drawn[t] = x.shiftRight(16).mod(BigInteger.valueOf(12)).intValue();
        }
        int done = 0;
        List<Integer> owner = s.owner;
        for (int t = 0; t < n; t++) {
            if (!gain(owner, drawn[2 * t], drawn[2 * t + 1])) continue;
            owner = turned(owner, drawn[2 * t], drawn[2 * t + 1]);
            done++;
        }
        return done;
    }

    // ---- what there is

    private int image(int i) {
        if (i < 0 || i > 1) return refuse(-2);
        images[i] = s;
        return 1;
    }

    private int from(int i) {
        if (i < 0 || i > 1) return refuse(-2);
        if (images[i] == null) return refuse(-3);
        s = images[i];
        return 1;
    }

    private List<Integer> counted() {
        int jam = 0;
        for (Boy b : s.boys) jam += b.jam;
        return List.of(s.boys.size(), own(-1).size(), jam, Integer.bitCount(enough()), s.said.size(), s.past.size(), text.length());
    }

    private long digest() {
        List<Long> all = new ArrayList<>();
        for (int v : counted()) all.add((long) v);
        for (Boy b : s.boys) all.addAll(List.of((long) b.kind, (long) b.need, (long) b.jam));
        for (int v : s.owner) all.add((long) v);
        for (Said n : s.said) all.addAll(List.of((long) n.boy, (long) n.j, (long) n.v, (long) n.ahead));
        all.addAll(List.of(above, below));
        long h = 1193;
        for (long v : all) h = 31 * h + v;
        return h;
    }
}
