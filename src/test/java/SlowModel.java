import java.util.ArrayList;
import java.util.Arrays;
import java.util.List;
import java.util.TreeMap;

/** The document told a second time, by plain search and copies: what ModelTest holds SaddleFit against. */
final class SlowModel {
    static final int NONE = -1, UNKNOWN = -1000000001, OUTSIDE = -1000000002, NOT = -1000000003, FULL = -1000000004;

    /** A burden; who carries it is a list of none, one or two. */
    static final class Thing {
        int kind, weight, edge, pad;
        List<Integer> by = new ArrayList<>();

        Thing copy() {
            Thing t = new Thing();
            t.kind = kind;
            t.weight = weight;
            t.edge = edge;
            t.pad = pad;
            t.by = new ArrayList<>(by);
            return t;
        }
    }

    static final class World {
        int days, stock;
        long seed;
        List<Thing> things = new ArrayList<>();
        List<int[]> backs = new ArrayList<>();
        int[] sore = new int[0];

        World copy() {
            World w = new World();
            w.days = days;
            w.stock = stock;
            w.seed = seed;
            for (Thing t : things) {
                w.things.add(t.copy());
            }
            w.backs = backs;
            w.sore = sore.clone();
            return w;
        }

        int part(Thing t, int p) {
            if (t.by.size() < 2) {
                return t.weight;
            }
            return t.by.get(0) == p ? (t.weight + 1) / 2 : t.weight / 2;
        }

        int parts(int p) {
            return things.stream().filter(t -> t.by.contains(p)).mapToInt(t -> part(t, p)).sum();
        }

        int rubs(Thing t, int p) {
            int r = t.edge > t.pad ? t.edge - t.pad : 0;
            boolean august = (days - 7) % 12 == 0;
            int[] by = {r, t.by.size() == 2 ? r / 2 : r, r == 0 ? 0 : r + backs.get(p)[1], r + 2 * (days & 1), august ? r + r : 0};
            return by[t.kind];
        }

        int galling(int p) {
            int over = parts(p) - backs.get(p)[0];
            int rubs = things.stream().filter(t -> t.by.contains(p)).mapToInt(t -> rubs(t, p)).sum();
            return (over > 0 ? over : 0) + rubs;
        }

        int gallingOfAll() {
            int all = 0;
            for (int p = 0; p < backs.size(); p++) {
                all += galling(p);
            }
            return all;
        }

        int carried(int p) {
            int set = 0;
            for (int g = 0; g < things.size(); g++) {
                set += things.get(g).by.contains(p) ? 1 << g : 0;
            }
            return set;
        }

        void pass() {
            int[] then = sore.clone();
            for (int p = 0; p < backs.size(); p++) {
                then[p] = carried(p) == 0 ? Math.max(sore[p] - 3, 0) : Math.min(sore[p] + galling(p), 9999);
            }
            sore = then;
            days++;
        }

        int galled() {
            int set = 0;
            for (int p = 0; p < sore.length; p++) {
                set += sore[p] >= 20 ? 1 << p : 0;
            }
            return set;
        }

        int draw(int n) {
            seed = Math.floorMod(seed * 1103515245L + 12345L, 1L << 31);
            return (int) (seed / 65536 % n);
        }
    }

    private boolean open;
    private World now = new World();
    private final StringBuilder text = new StringBuilder();
    private int faultAt = NONE;
    private final List<World> past = new ArrayList<>();
    private final World[] images = new World[2];
    private final List<int[]> felt = new ArrayList<>();
    private final List<int[]> book = new ArrayList<>();

    private boolean noThing(int g) {
        return g < 0 || g >= now.things.size();
    }

    private boolean noBack(int p) {
        return p < 0 || p >= now.backs.size();
    }

    private void remember() {
        past.add(now.copy());
        if (past.size() > 16) {
            past.remove(0);
        }
    }

    int feed(int letter) {
        if (letter < 0 || letter > 255) {
            return OUTSIDE;
        }
        if (text.length() == 240) {
            return FULL;
        }
        return text.append((char) letter).length();
    }

    /** By tokens: words with their places, then clauses of them. */
    int shop() {
        String all = text.toString();
        text.setLength(0);
        World world = new World();
        world.seed = now.seed;
        int[] fault = read(all, world);
        faultAt = fault[1];
        if (fault[0] != 0) {
            return -10 - fault[0];
        }
        open = !all.replace(" ", "").isEmpty();
        world.sore = new int[world.backs.size()];
        now = world;
        past.clear();
        felt.clear();
        book.clear();
        Arrays.fill(images, null);
        return now.things.size();
    }

    private static int[] read(String all, World world) {
        List<String> words = new ArrayList<>();
        List<Integer> places = new ArrayList<>();
        java.util.regex.Matcher m = java.util.regex.Pattern.compile("[0-9]+|[^ ]", java.util.regex.Pattern.DOTALL).matcher(all);
        while (m.find()) {
            words.add(m.group());
            places.add(m.start());
        }
        words.add("end");
        places.add(all.length());
        int[][] bounds = {{0, 99}, {0, 4, 1, 60, 0, 20}, {1, 99, 0, 9}};
        int i = 0;
        while (i < words.size() - 1) {
            int word = "fbp".indexOf(words.get(i));
            if (word < 0 || i == 0 && word > 0) {
                return new int[] {1, places.get(i)};
            }
            if (word == 0 && i > 0 || word == 1 && world.things.size() == 6 || word == 2 && world.backs.size() == 5) {
                return new int[] {3, places.get(i)};
            }
            i++;
            int[] numbers = new int[bounds[word].length / 2];
            for (int k = 0; k < numbers.length; k++, i++) {
                String figures = words.get(i);
                if (!figures.matches("[0-9]+")) {
                    return new int[] {1, places.get(i)};
                }
                if (figures.length() > 3 || Integer.parseInt(figures) < bounds[word][2 * k] || Integer.parseInt(figures) > bounds[word][2 * k + 1]) {
                    return new int[] {2, places.get(i)};
                }
                numbers[k] = Integer.parseInt(figures);
            }
            if (!words.get(i).equals(";")) {
                return new int[] {1, places.get(i)};
            }
            i++;
            if (word == 0) {
                world.stock = numbers[0];
            } else if (word == 1) {
                Thing t = new Thing();
                t.kind = numbers[0];
                t.weight = numbers[1];
                t.edge = numbers[2];
                world.things.add(t);
            } else {
                world.backs.add(numbers);
            }
        }
        return new int[] {0, NONE};
    }

    int fault() {
        return faultAt;
    }

    int told(int what) {
        int nobody = 0;
        int shared = 0;
        for (int g = 0; g < now.things.size(); g++) {
            nobody |= now.things.get(g).by.isEmpty() ? 1 << g : 0;
            shared |= now.things.get(g).by.size() == 2 ? 1 << g : 0;
        }
        int most = NONE;
        for (int p = now.backs.size() - 1; p >= 0; p--) {
            most = most == NONE || now.parts(p) >= now.parts(most) ? p : most;
        }
        int[] all = {now.things.size(), now.backs.size(), text.length(), now.days, now.stock, now.galled(), now.gallingOfAll(), nobody, shared, most,
            now.days % 12 == 7 ? 1 : 0, felt.size(), book.size(), past.size(), flock((1 << now.backs.size()) - 1)};
        return what < 0 || what >= all.length ? OUTSIDE : all[what];
    }

    /** Pounds are put on one by one wherever that makes galling less, until none of the backs galls. */
    private int flock(int backs) {
        World w = now.copy();
        int pounds = 0;
        for (int g = 0; g < w.things.size(); g++) {
            Thing t = w.things.get(g);
            int start = t.pad;
            int least = gallingOf(w, backs);
            int bestPad = start;
            for (int pad = start; pad <= 30; pad++) {
                t.pad = pad;
                if (gallingOf(w, backs) < least) {
                    least = gallingOf(w, backs);
                    bestPad = pad;
                }
            }
            t.pad = bestPad;
            pounds += bestPad - start;
        }
        return gallingOf(w, backs) == 0 ? pounds : NONE;
    }

    private static int gallingOf(World w, int backs) {
        int all = 0;
        for (int p = 0; p < w.backs.size(); p++) {
            all += (backs >> p & 1) * w.galling(p);
        }
        return all;
    }

    int burden(int g, int what) {
        if (noThing(g)) {
            return UNKNOWN;
        }
        Thing t = now.things.get(g);
        int[] all = {t.kind, t.weight, t.edge, t.pad, t.by.isEmpty() ? NONE : t.by.get(0), t.by.size() < 2 ? NONE : t.by.get(1)};
        return what < 0 || what >= all.length ? OUTSIDE : all[what];
    }

    int back(int p, int what) {
        if (noBack(p)) {
            return UNKNOWN;
        }
        int[] all = {now.backs.get(p)[0], now.backs.get(p)[1], now.sore[p], now.galling(p), now.carried(p), now.parts(p), flock(1 << p), ring(p, 0)};
        return what < 0 || what >= all.length ? OUTSIDE : all[what];
    }

    private int ring(int p, int seen) {
        seen |= 1 << p;
        for (Thing t : now.things) {
            if (t.by.size() == 2 && t.by.contains(p)) {
                for (int q : t.by) {
                    if ((seen >> q & 1) == 0) {
                        seen |= ring(q, seen);
                    }
                }
            }
        }
        return seen;
    }

    private int refusedDays(int n) {
        return n < 1 || n > 60 ? OUTSIDE : !open ? NOT : now.days > 9000 ? FULL : 0;
    }

    int day(int n) {
        if (refusedDays(n) != 0) {
            return refusedDays(n);
        }
        remember();
        for (int i = 0; i < n; i++) {
            now.pass();
        }
        return now.galled();
    }

    int take(int g, int p) {
        if (noThing(g) || noBack(p)) {
            return UNKNOWN;
        }
        if (!now.things.get(g).by.isEmpty()) {
            return NOT;
        }
        remember();
        now.things.get(g).by.add(p);
        return now.galling(p);
    }

    int share(int g, int p) {
        if (noThing(g) || noBack(p)) {
            return UNKNOWN;
        }
        if (now.things.get(g).by.size() != 1 || now.things.get(g).by.contains(p)) {
            return NOT;
        }
        remember();
        now.things.get(g).by.add(p);
        return now.galling(p);
    }

    int down(int g, int p) {
        if (noThing(g) || noBack(p)) {
            return UNKNOWN;
        }
        if (!now.things.get(g).by.contains(p)) {
            return NOT;
        }
        remember();
        now.things.get(g).by.remove(Integer.valueOf(p));
        return now.galling(p);
    }

    int hand(int g, int p, int q) {
        if (noThing(g) || noBack(p) || noBack(q) || p == q) {
            return UNKNOWN;
        }
        List<Integer> by = now.things.get(g).by;
        if (!by.contains(p) || by.contains(q)) {
            return NOT;
        }
        remember();
        by.replaceAll(who -> who == p ? q : who);
        return now.galling(q);
    }

    int stuff(int g, int n) {
        if (noThing(g)) {
            return UNKNOWN;
        }
        if (n < -30 || n > 30) {
            return OUTSIDE;
        }
        Thing t = now.things.get(g);
        if (t.pad + n < 0 || t.pad + n > 30 || now.stock - n < 0) {
            return NOT;
        }
        remember();
        now.stock -= n;
        t.pad += n;
        return t.pad;
    }

    int weigh(int g, int w) {
        if (noThing(g)) {
            return UNKNOWN;
        }
        if (w < 1 || w > 60) {
            return OUTSIDE;
        }
        remember();
        int was = now.things.get(g).weight;
        now.things.get(g).weight = w;
        return was;
    }

    int drift(int n) {
        if (refusedDays(n) != 0) {
            return refusedDays(n);
        }
        remember();
        for (int i = 0; i < n; i++) {
            if (!now.things.isEmpty() && !now.backs.isEmpty()) {
                int deed = now.draw(4);
                List<Integer> by = now.things.get(now.draw(now.things.size())).by;
                Integer p = now.draw(now.backs.size());
                if (deed == 0 && by.isEmpty() || deed == 1 && by.size() == 1 && !by.contains(p)) {
                    by.add(p);
                } else if (deed == 2) {
                    by.remove(p);
                }
            }
            now.pass();
        }
        return now.galled();
    }

    int undo() {
        if (past.isEmpty()) {
            return NOT;
        }
        long seed = now.seed;
        now = past.remove(past.size() - 1);
        now.seed = seed;
        return past.size();
    }

    int sore(int p, int n) {
        if (noBack(p)) {
            return UNKNOWN;
        }
        if (n < 0 || n > 200) {
            return OUTSIDE;
        }
        World w = now.copy();
        for (int i = 0; i < n; i++) {
            w.pass();
        }
        return w.sore[p];
    }

    int when(int p) {
        if (noBack(p)) {
            return UNKNOWN;
        }
        World w = now.copy();
        for (int i = 0; i <= 200; i++) {
            if (w.sore[p] > 19) {
                return i;
            }
            w.pass();
        }
        return NONE;
    }

    int worst(int n, int what) {
        if (n < 1 || n > 60 || what < 0 || what > 1) {
            return OUTSIDE;
        }
        if (!open) {
            return NOT;
        }
        World w = now.copy();
        int[] best = {0, -1};
        for (int i = 0; i < n; i++) {
            if (w.gallingOfAll() > best[1]) {
                best = new int[] {i, w.gallingOfAll()};
            }
            w.pass();
        }
        return best[what];
    }

    /** Every way to lay the burdens; told is the one that two share, NONE for none. The answer: how much, the pair, the backs. */
    private int[] layEach(int told) {
        World w = now.copy();
        int backs = w.backs.size();
        int ways = 1;
        for (int g = 0; g < w.things.size(); g++) {
            ways *= g == told ? backs * backs : backs;
        }
        int[] best = null;
        for (int way = 0; way < ways; way++) {
            int rest = way;
            int[] row = new int[2 + w.things.size()];
            boolean fair = true;
            for (int g = w.things.size() - 1; g >= 0; g--) {
                List<Integer> by = w.things.get(g).by;
                by.clear();
                by.add(rest % backs);
                row[2 + g] = rest % backs;
                rest /= backs;
                if (g == told) {
                    by.add(0, rest % backs);
                    rest /= backs;
                    fair = by.get(0) < by.get(1);
                    row[1] = 10 * by.get(0) + by.get(1);
                }
            }
            row[0] = fair ? w.gallingOfAll() : 0;
            if (fair && (best == null || row[0] < best[0] || told != NONE && row[0] == best[0] && row[1] < best[1])) {
                best = row;
            }
        }
        return best;
    }

    int fit(int g) {
        if (g != NONE && noThing(g)) {
            return UNKNOWN;
        }
        return now.backs.isEmpty() ? NONE : layEach(NONE)[g == NONE ? 0 : 2 + g];
    }

    int byTwo(int g, int what) {
        if (noThing(g)) {
            return UNKNOWN;
        }
        if (what < 0 || what > 1) {
            return OUTSIDE;
        }
        return now.backs.size() < 2 ? NONE : layEach(g)[what];
    }

    int order(int p, int what) {
        if (noBack(p)) {
            return UNKNOWN;
        }
        if (what < 0 || what > 1) {
            return OUTSIDE;
        }
        return orders(now, p, 0).firstEntry().getValue() * what + orders(now, p, 0).firstKey() * (1 - what);
    }

    /** By how sore it ends: the least order. */
    private static TreeMap<Integer, Integer> orders(World w, int p, int figures) {
        TreeMap<Integer, Integer> all = new TreeMap<>();
        if (w.carried(p) == 0) {
            all.put(w.sore[p], figures);
            return all;
        }
        for (int g = 0; g < w.things.size(); g++) {
            if (w.things.get(g).by.contains(p)) {
                World then = w.copy();
                then.things.get(g).by.remove(Integer.valueOf(p));
                then.pass();
                orders(then, p, figures * 10 + g + 1).forEach((sore, order) -> all.merge(sore, order, Math::min));
            }
        }
        return all;
    }

    int could(int g) {
        if (noThing(g)) {
            return UNKNOWN;
        }
        if (!now.things.get(g).by.isEmpty()) {
            return NOT;
        }
        int set = 0;
        for (int p = 0; p < now.backs.size(); p++) {
            World w = now.copy();
            w.things.get(g).by.add(p);
            set += w.galling(p) > now.galling(p) ? 0 : 1 << p;
        }
        return set;
    }

    int shareOf(int g, int p, int q) {
        if (noThing(g) || noBack(p) || noBack(q) || p == q) {
            return UNKNOWN;
        }
        int ofSecond = now.things.get(g).weight * now.backs.get(q)[0] / (now.backs.get(p)[0] + now.backs.get(q)[0]);
        return now.things.get(g).weight - ofSecond;
    }

    int fair(int n, int q) {
        if (n < 0 || n > 60 || q < 0 || q > 100) {
            return OUTSIDE;
        }
        java.math.BigInteger odds = java.math.BigInteger.valueOf(1000000000);
        for (int i = 0; i < n; i++) {
            odds = odds.multiply(java.math.BigInteger.valueOf(q)).divide(java.math.BigInteger.valueOf(100));
        }
        return odds.intValueExact();
    }

    int feel(int s, int f, int v) {
        if (s < 1 || s > 99 || f < 0 || f > 30 || v < 0 || v > 99) {
            return OUTSIDE;
        }
        if (felt.size() == 6) {
            return FULL;
        }
        felt.add(new int[] {s, f, v});
        return felt.size();
    }

    private static int feels(int w, int e, int s, int f) {
        return (w > s ? w - s : 0) + (e > f ? e - f : 0);
    }

    private List<int[]> pairs() {
        List<int[]> pairs = new ArrayList<>();
        for (int w = 1; w <= 60; w++) {
            for (int e = 0; e <= 20; e++) {
                int weight = w;
                int edge = e;
                if (felt.stream().allMatch(x -> feels(weight, edge, x[0], x[1]) == x[2])) {
                    pairs.add(new int[] {w, e});
                }
            }
        }
        return pairs;
    }

    int carries(int what) {
        if (what < 0 || what > 2) {
            return OUTSIDE;
        }
        List<int[]> pairs = pairs();
        return what == 0 ? pairs.size() : pairs.isEmpty() ? NONE : pairs.get(0)[what - 1];
    }

    int tryNext() {
        List<int[]> pairs = pairs();
        int best = NONE;
        int least = pairs.size();
        for (int s = 1; s <= 60; s++) {
            TreeMap<Integer, Integer> parts = new TreeMap<>();
            for (int[] pair : pairs) {
                parts.merge(feels(pair[0], pair[1], s, 0), 1, Integer::sum);
            }
            int greatest = parts.values().stream().mapToInt(x -> x).max().orElse(0);
            if (greatest < least) {
                least = greatest;
                best = s;
            }
        }
        return best;
    }

    int write(int p, int sore) {
        if (noBack(p)) {
            return UNKNOWN;
        }
        if (sore < 0 || sore > 9999) {
            return OUTSIDE;
        }
        if (book.size() == 15) {
            return FULL;
        }
        book.add(new int[] {p, sore});
        return book.size();
    }

    int tear() {
        int had = felt.size() + book.size();
        felt.clear();
        book.clear();
        return had;
    }

    int judge() {
        for (int i = 0; i < book.size(); i++) {
            if (now.sore[book.get(i)[0]] != book.get(i)[1]) {
                return i;
            }
        }
        return NONE;
    }

    int seed(int v) {
        if (v < 0) {
            return OUTSIDE;
        }
        int was = (int) now.seed;
        now.seed = v;
        return was;
    }

    int keep(int i) {
        if (i < 0 || i > 1) {
            return UNKNOWN;
        }
        images[i] = now.copy();
        past.clear();
        return 1;
    }

    int goBack(int i) {
        if (i < 0 || i > 1) {
            return UNKNOWN;
        }
        if (images[i] == null) {
            return NOT;
        }
        now = images[i].copy();
        past.clear();
        return 1;
    }
}
