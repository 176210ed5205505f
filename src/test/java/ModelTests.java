import java.util.ArrayDeque;
import java.util.ArrayList;
import java.util.Arrays;
import java.util.List;
import java.util.Random;
import java.util.regex.Matcher;
import java.util.regex.Pattern;

/** Random runs of calls, with a fixed seed, beside a model that reckons each answer the long way. */
public final class ModelTests {
    /** The model's candle: kind, cell, height, owner, tallow, lit. */
    private record Candle(int kind, int cell, int height, int owner, int tallow, boolean lit) {
        Candle at(int where) {
            return new Candle(kind, where, height, owner, tallow, lit);
        }

        Candle burning(boolean on) {
            return new Candle(kind, cell, height, owner, tallow, on);
        }

        Candle owned(int who) {
            return new Candle(kind, cell, height, who, tallow, lit);
        }

        int hours() {
            switch (kind) {
                case 1: return tallow / 2;
                case 3: return 2 * tallow;
                case 4: return tallow / 2 + 2;
                case 5: return 12;
                default: return tallow;
            }
        }

        int light(int where, int hour, int fog) {
            int d = Math.abs(cell % 8 - where % 8) + Math.abs(cell / 8 - where / 8);
            int near = height - Math.max(0, d - 2);
            int plain = height - d;
            int strong = plain;
            if (kind == 1 || kind == 4) {
                strong = plain > 0 ? plain + 3 : 0;
            }
            if (kind == 4) {
                strong = strong / 2;
            }
            if (kind == 2 || kind == 3) {
                strong = near;
            }
            if (kind == 5) {
                strong = plain > 0 ? 1 : 0;
            }
            return lit && hour < hours() ? Math.max(0, Math.max(0, strong) - fog) : 0;
        }
    }

    /** What images keep; never changed in place, so that a reference is a copy. */
    private record State(int fog, List<Candle> candles, List<Integer> wanted, List<int[]> readings,
            List<List<Candle>> undos) {
    }

    private static final class Model {
        State s = fresh(0);
        State[] images = new State[2];
        String text = "";
        long above = 0;
        long below = 1;
        int[] refused = new int[3];

        static State fresh(int fog) {
            return new State(fog, List.of(), List.of(), List.of(), List.of());
        }

        long refuse(int reason, long answer) {
            refused[reason]++;
            return answer;
        }

        static boolean in(int n, int a, int b) {
            return a <= n && n <= b;
        }

        static int lightOf(List<Candle> candles, int fog, int cell, int hour) {
            return candles.stream().mapToInt(c -> c.light(cell, hour, fog)).max().orElse(0);
        }

        /** Owner, -1 dark, -2 hedge. */
        static int whose(List<Candle> candles, int fog, int cell, int hour) {
            int[] best = new int[4];
            for (Candle c : candles) {
                best[c.owner()] = Math.max(best[c.owner()], c.light(cell, hour, fog));
            }
            int top = Arrays.stream(best).max().getAsInt();
            if (top == 0) {
                return -1;
            }
            int[] tops = java.util.stream.IntStream.range(0, 4).filter(o -> best[o] == top).toArray();
            return tops.length == 1 ? tops[0] : -2;
        }

        static List<Integer> cellsOf(int who, List<Candle> candles, int fog, int hour) {
            List<Integer> cells = new ArrayList<>();
            for (int c = 0; c < 64; c++) {
                if (whose(candles, fog, c, hour) == who) {
                    cells.add(c);
                }
            }
            return cells;
        }

        static List<Candle> bySet(List<Candle> candles, int set) {
            List<Candle> out = new ArrayList<>();
            for (int k = 0; k < candles.size(); k++) {
                out.add(candles.get(k).burning((set >> k & 1) == 1));
            }
            return out;
        }

        int litBits() {
            int bits = 0;
            for (int k = 0; k < s.candles().size(); k++) {
                bits += s.candles().get(k).lit() ? 1 << k : 0;
            }
            return bits;
        }

        static <T> List<T> with(List<T> list, T more) {
            List<T> out = new ArrayList<>(list);
            out.add(more);
            return out;
        }

        void change(int k, Candle changed) {
            List<List<Candle>> undos = with(s.undos(), s.candles());
            if (undos.size() > 8) {
                undos.remove(0);
            }
            List<Candle> candles = new ArrayList<>(s.candles());
            candles.set(k, changed);
            s = new State(s.fog(), candles, s.wanted(), s.readings(), undos);
        }

        int count(int what) {
            int[] counts = {s.candles().size(), s.fog(), litBits(), s.wanted().size(), s.readings().size(),
                s.undos().size(), text.length()};
            return counts[what];
        }

        List<Integer> fitting() {
            List<Integer> sets = new ArrayList<>();
            for (int set = 0; set < 1 << s.candles().size(); set++) {
                List<Candle> lit = bySet(s.candles(), set);
                if (s.readings().stream().allMatch(r -> lightOf(lit, s.fog(), r[0], r[1]) == r[2])) {
                    sets.add(set);
                }
            }
            return sets;
        }

        long bestSet(int hour, int n, boolean byTallow) {
            long best = -1;
            long bestCost = Long.MAX_VALUE;
            for (int set = 0; set < 1 << s.candles().size(); set++) {
                List<Candle> lit = bySet(s.candles(), set);
                long cost = byTallow ? lit.stream().filter(Candle::lit).mapToInt(Candle::tallow).sum()
                        : Integer.bitCount(set);
                if (cost < bestCost
                        && s.wanted().stream().allMatch(w -> lightOf(lit, s.fog(), w, hour) >= n)) {
                    bestCost = cost;
                    best = byTallow ? cost : set;
                }
            }
            return best;
        }

        long put(int k, int hour) {
            int best = -1;
            int most = -1;
            for (int c = 0; c < 64; c++) {
                List<Candle> moved = new ArrayList<>(s.candles());
                moved.set(k, moved.get(k).at(c));
                int acres = cellsOf(moved.get(k).owner(), moved, s.fog(), hour).size();
                if (acres > most) {
                    most = acres;
                    best = c;
                }
            }
            return best;
        }

        private int steps(int from, int to, int hour, int n) {
            boolean[] open = new boolean[64];
            int[] far = new int[64];
            for (int c = 0; c < 64; c++) {
                open[c] = lightOf(s.candles(), s.fog(), c, hour) < n;
                far[c] = -1;
            }
            if (!open[from] || !open[to]) {
                return -1;
            }
            ArrayDeque<Integer> next = new ArrayDeque<>(List.of(from));
            far[from] = 0;
            while (!next.isEmpty()) {
                int c = next.poll();
                for (int d = 0; d < 64; d++) {
                    if (open[d] && far[d] < 0 && Math.abs(c % 8 - d % 8) + Math.abs(c / 8 - d / 8) == 1) {
                        far[d] = far[c] + 1;
                        next.add(d);
                    }
                }
            }
            return far[to];
        }

        long thief(int from, int to, int hour, int n, int what) {
            int all = steps(from, to, hour, n);
            if (what == 0 || all < 0) {
                return all;
            }
            if (all == 0) {
                return from;
            }
            for (int c = 0; c < 64; c++) {
                if (Math.abs(c % 8 - from % 8) + Math.abs(c / 8 - from / 8) == 1 && steps(c, to, hour, n) == all - 1) {
                    return c;
                }
            }
            throw new IllegalStateException();
        }

        long wedding(int a, int b, int hour) {
            List<Candle> joined = s.candles().stream().map(c -> c.owner() == b ? c.owned(a) : c).toList();
            return cellsOf(a, joined, s.fog(), hour).size() - cellsOf(a, s.candles(), s.fog(), hour).size()
                    - cellsOf(b, s.candles(), s.fog(), hour).size();
        }

        int gets(int who, int a, int b, int pair, int[] hourAndPrice) {
            List<Candle> candles = s.candles().stream().map(c -> c.owner() == a ? c.burning((pair & 1) > 0)
                    : c.owner() == b ? c.burning((pair & 2) > 0) : c).toList();
            int lit = (int) candles.stream().filter(c -> c.owner() == who && c.lit()).count();
            return cellsOf(who, candles, s.fog(), hourAndPrice[0]).size() - hourAndPrice[1] * lit / 10;
        }

        long spite(int a, int b, int... hourAndPrice) {
            long bits = 0;
            for (int pair = 0; pair < 4; pair++) {
                if (gets(a, a, b, pair, hourAndPrice) >= gets(a, a, b, pair ^ 1, hourAndPrice)
                        && gets(b, a, b, pair, hourAndPrice) >= gets(b, a, b, pair ^ 2, hourAndPrice)) {
                    bits += 1 << pair;
                }
            }
            return bits;
        }

        long measure(int hour) {
            List<Integer> sets = fitting();
            if (sets.isEmpty()) {
                return -1;
            }
            int best = -1;
            int fewest = Integer.MAX_VALUE;
            for (int c = 0; c < 64; c++) {
                int[] alike = new int[24];
                for (int set : sets) {
                    alike[lightOf(bySet(s.candles(), set), s.fog(), c, hour)]++;
                }
                int most = Arrays.stream(alike).max().getAsInt();
                if (most < fewest) {
                    fewest = most;
                    best = c;
                }
            }
            return best;
        }

        long draught(int cell, int hour, int n, int c) {
            int lit = litBits();
            long over = 0;
            long under = 1;
            for (int k = 0; k < Integer.bitCount(lit); k++) {
                under *= 10;
            }
            for (int set = 0; set < 1 << s.candles().size(); set++) {
                if ((set & ~lit) == 0 && lightOf(bySet(s.candles(), set), s.fog(), cell, hour) >= n) {
                    long chance = 1;
                    for (int k = 0; k < s.candles().size(); k++) {
                        if ((lit >> k & 1) == 1) {
                            chance *= (set >> k & 1) == 1 ? 10 - c : c;
                        }
                    }
                    over += chance;
                }
            }
            long common = java.math.BigInteger.valueOf(over).gcd(java.math.BigInteger.valueOf(under)).longValue();
            above = over / common;
            below = under / common;
            return 1;
        }

        long nights(int owner, int seed, int n, int w) {
            long x = seed;
            long sum = 0;
            for (int i = 0; i < n; i++) {
                List<Candle> lit = new ArrayList<>();
                for (Candle c : s.candles()) {
                    x = (x * 1103515245L + 12345) % 2147483648L;
                    lit.add(c.burning(x / 65536 % 100 < w));
                }
                sum += cellsOf(owner, lit, s.fog(), 0).size();
            }
            return sum;
        }

        /** The text as tokens with their places; each item is matched against its form, part by part. */
        long read() {
            Matcher m = Pattern.compile("[a-z]+|[0-9]+|;|[^ ]").matcher(text);
            List<String> tokens = new ArrayList<>();
            List<Integer> places = new ArrayList<>();
            while (m.find()) {
                tokens.add(m.group());
                places.add(m.start());
            }
            tokens.add("");
            places.add(text.length());
            int i = 0;
            int items = 0;
            int fog = 0;
            List<Candle> told = new ArrayList<>();
            while (items == 0 || !tokens.get(i).isEmpty()) {
                String word = tokens.get(i);
                int[][] form;
                if (items == 0 && word.equals("valley")) {
                    form = new int[][] {{0, 9}};
                } else if (items > 0 && word.equals("candle") && told.size() < 7) {
                    form = new int[][] {{0, 5}, {0, 63}, {1, 20}, {0, 3}, {0, 12}};
                } else if (items > 0 && word.equals("out")) {
                    form = new int[][] {{0, told.size() - 1}};
                } else {
                    return -10 - places.get(i);
                }
                int[] v = new int[form.length];
                for (int k = 0; k < form.length; k++) {
                    i++;
                    String t = tokens.get(i);
                    if (!t.matches("[0-9]{1,2}") || !in(Integer.parseInt(t), form[k][0], form[k][1])) {
                        return -10 - places.get(i);
                    }
                    v[k] = Integer.parseInt(t);
                }
                i++;
                if (!tokens.get(i).equals(";")) {
                    return -10 - places.get(i);
                }
                i++;
                items++;
                if (word.equals("valley")) {
                    fog = v[0];
                } else if (word.equals("candle")) {
                    told.add(new Candle(v[0], v[1], v[2], v[3], v[4], true));
                } else {
                    told.set(v[0], told.get(v[0]).burning(false));
                }
            }
            s = new State(fog, told, List.of(), List.of(), List.of());
            return items;
        }

        long digest() {
            long h = 991;
            for (int what = 0; what <= 6; what++) {
                h = 31 * h + count(what);
            }
            for (Candle c : s.candles()) {
                for (int v : new int[] {c.kind(), c.cell(), c.height(), c.owner(), c.tallow()}) {
                    h = 31 * h + v;
                }
            }
            for (int w : s.wanted()) {
                h = 31 * h + w;
            }
            for (int[] r : s.readings()) {
                for (int v : r) {
                    h = 31 * h + v;
                }
            }
            return 31 * (31 * h + above) + below;
        }

        boolean has(int k) {
            return in(k, 0, s.candles().size() - 1);
        }

        static long nth(List<Integer> cells, int i) {
            return i == -1 ? cells.size() : i < cells.size() ? cells.get(i) : -5;
        }

        /** What a number must be, by call and place: {least, most}. */
        boolean good(String call, int[] a) {
            int last = s.candles().size() - 1;
            int any = Integer.MAX_VALUE;
            int[][] form;
            switch (call) {
                case "valley": case "fog": form = new int[][] {{0, 9}}; break;
                case "candle": form = new int[][] {{0, 5}, {0, 63}, {1, 20}, {0, 3}, {0, 12}}; break;
                case "move": form = new int[][] {{0, last}, {0, 63}}; break;
                case "light": form = new int[][] {{0, last}, {0, 1}}; break;
                case "type": form = new int[][] {{0, 127}}; break;
                case "of": form = new int[][] {{0, last}, {0, 6}}; break;
                case "shines": form = new int[][] {{0, last}, {0, 63}, {0, 11}}; break;
                case "cell": form = new int[][] {{0, 63}, {0, 11}, {0, 2}}; break;
                case "acres": form = new int[][] {{0, 3}, {0, 11}, {-1, any}}; break;
                case "hedges": form = new int[][] {{0, 11}, {-1, any}}; break;
                case "dark": form = new int[][] {{0, 63}, {0, 11}, {1, 20}}; break;
                case "want": form = new int[][] {{0, 63}}; break;
                case "lighting": case "tallow": form = new int[][] {{0, 11}, {1, 20}}; break;
                case "put": form = new int[][] {{0, last}, {0, 11}}; break;
                case "thief": form = new int[][] {{0, 63}, {0, 63}, {0, 11}, {1, 20}, {0, 1}}; break;
                case "wedding": form = new int[][] {{0, 3}, {0, 3}, {0, 11}}; break;
                case "spite": form = new int[][] {{0, 3}, {0, 3}, {0, 11}, {0, 99}}; break;
                case "reading": form = new int[][] {{0, 63}, {0, 11}, {0, 23}}; break;
                case "burn": case "part": case "image": case "from": form = new int[][] {{0, 1}}; break;
                case "measure": form = new int[][] {{0, 11}}; break;
                case "draught": form = new int[][] {{0, 63}, {0, 11}, {0, 23}, {0, 10}}; break;
                case "nights": form = new int[][] {{0, 3}, {0, 999999}, {0, 30}, {0, 100}}; break;
                case "status": form = new int[][] {{0, 2}}; break;
                case "count": form = new int[][] {{0, 6}}; break;
                default: form = new int[0][]; break;
            }
            for (int i = 0; i < form.length; i++) {
                if (!in(a[i], form[i][0], form[i][1])) {
                    return false;
                }
            }
            return !(call.equals("wedding") || call.equals("spite")) || a[0] != a[1];
        }

        long call(String call, int[] a) {
            if (!good(call, a)) {
                boolean ten = List.of("cell", "acres", "hedges", "burn").contains(call);
                return refuse(0, call.equals("status") ? -1 : call.equals("wedding") ? -100 : ten ? -10 : -2);
            }
            return answer(call, a);
        }

        private long answer(String call, int[] a) {
            List<Candle> cs = s.candles();
            int f = s.fog();
            switch (call) {
                case "valley":
                    s = fresh(a[0]);
                    return cs.size();
                case "fog":
                    s = new State(a[0], cs, s.wanted(), s.readings(), s.undos());
                    return f;
                case "candle":
                    if (cs.size() == 7) {
                        return refuse(2, -4);
                    }
                    s = new State(f, with(cs, new Candle(a[0], a[1], a[2], a[3], a[4], true)), s.wanted(),
                            s.readings(), List.of());
                    return cs.size();
                case "move":
                    change(a[0], cs.get(a[0]).at(a[1]));
                    return cs.get(a[0]).cell();
                case "light":
                    if (cs.get(a[0]).lit() == (a[1] == 1)) {
                        return refuse(1, -3);
                    }
                    change(a[0], cs.get(a[0]).burning(a[1] == 1));
                    return 1;
                case "undo":
                    if (s.undos().isEmpty()) {
                        return refuse(1, -3);
                    }
                    int last = s.undos().size() - 1;
                    s = new State(f, s.undos().get(last), s.wanted(), s.readings(), s.undos().subList(0, last));
                    return litBits();
                case "type":
                    if (text.length() == 150) {
                        return refuse(2, -4);
                    }
                    text = text + (char) a[0];
                    return text.length();
                case "clear":
                    int had = text.length();
                    text = "";
                    return had;
                case "read": return read();
                case "of":
                    Candle c = cs.get(a[0]);
                    return new int[] {c.kind(), c.cell(), c.height(), c.owner(), c.tallow(), c.lit() ? 1 : 0,
                        c.hours()}[a[1]];
                default: return asked(call, a);
            }
        }

        private long asked(String call, int[] a) {
            List<Candle> cs = s.candles();
            int f = s.fog();
            switch (call) {
                case "shines": return cs.get(a[0]).light(a[1], a[2], f);
                case "cell":
                    int who = whose(cs, f, a[0], a[1]);
                    return a[2] == 0 ? lightOf(cs, f, a[0], a[1]) : a[2] == 1 ? Math.max(-1, who) : who == -2 ? 1 : 0;
                case "acres": return nth(cellsOf(a[0], cs, f, a[1]), a[2]);
                case "hedges": return nth(cellsOf(-2, cs, f, a[0]), a[1]);
                case "dark":
                    int h = a[1];
                    while (h < 12 && lightOf(cs, f, a[0], h) >= a[2]) {
                        h++;
                    }
                    return h;
                case "want":
                    if (s.wanted().size() == 6) {
                        return refuse(2, -4);
                    }
                    s = new State(f, cs, with(s.wanted(), a[0]), s.readings(), s.undos());
                    return s.wanted().size();
                case "forget":
                    int wanted = s.wanted().size();
                    s = new State(f, cs, List.of(), s.readings(), s.undos());
                    return wanted;
                case "lighting": return bestSet(a[0], a[1], false);
                case "tallow": return bestSet(a[0], a[1], true);
                case "put": return put(a[0], a[1]);
                case "thief": return thief(a[0], a[1], a[2], a[3], a[4]);
                case "wedding": return wedding(a[0], a[1], a[2]);
                case "spite": return spite(a[0], a[1], a[2], a[3]);
                default: return measured(call, a);
            }
        }

        private long measured(String call, int[] a) {
            switch (call) {
                case "reading":
                    if (s.readings().size() == 6) {
                        return refuse(2, -4);
                    }
                    s = new State(s.fog(), s.candles(), s.wanted(),
                            with(s.readings(), new int[] {a[0], a[1], a[2]}), s.undos());
                    return s.readings().size();
                case "burnt":
                    int had = s.readings().size();
                    s = new State(s.fog(), s.candles(), s.wanted(), List.of(), s.undos());
                    return had;
                case "burn":
                    List<Integer> sets = fitting();
                    return a[0] == 0 ? sets.size() : sets.stream().reduce((x, y) -> x & y).orElse(-1);
                case "measure": return measure(a[0]);
                case "draught": return draught(a[0], a[1], a[2], a[3]);
                case "nights": return nights(a[0], a[1], a[2], a[3]);
                case "part": return a[0] == 0 ? above : below;
                case "image":
                    images[a[0]] = s;
                    return 1;
                case "from":
                    if (images[a[0]] == null) {
                        return refuse(1, -3);
                    }
                    s = images[a[0]];
                    return 1;
                case "status": return refused[a[0]];
                case "count": return count(a[0]);
                case "digest": return digest();
                default: throw new IllegalStateException(call);
            }
        }
    }

    private final Random random = new Random(20261118);
    private int wrong = 0;

    private int below(int n) {
        return random.nextInt(n);
    }

    /** Numbers that are mostly as told, now and then beside it or far off. */
    private int odd(int least, int most) {
        int[] off = {least - 1, most + 1, Integer.MIN_VALUE, Integer.MAX_VALUE, -1, 64};
        return below(25) == 0 ? off[below(off.length)] : least + below(most - least + 1);
    }

    private int[] numbers(String call, Model m) {
        int k = odd(0, Math.max(0, m.s.candles().size() - 1));
        int cell = odd(0, 63);
        int hour = below(3) == 0 ? odd(0, 11) : below(4);
        int n = odd(1, below(2) == 0 ? 20 : 5);
        switch (call) {
            case "valley": case "fog": return new int[] {below(2) == 0 ? odd(0, 9) : 0};
            case "candle": return new int[] {odd(0, 5), cell, odd(1, below(2) == 0 ? 20 : 6), odd(0, 3), odd(0, 12)};
            case "move": return new int[] {k, cell};
            case "light": return new int[] {k, odd(0, 1)};
            case "type": return new int[] {odd(0, 127)};
            case "of": return new int[] {k, odd(0, 6)};
            case "shines": return new int[] {k, cell, hour};
            case "cell": return new int[] {cell, hour, odd(0, 2)};
            case "acres": return new int[] {odd(0, 3), hour, odd(-1, 40)};
            case "hedges": return new int[] {hour, odd(-1, 6)};
            case "dark": return new int[] {cell, hour, n};
            case "want": return new int[] {cell};
            case "lighting": case "tallow": return new int[] {hour, n};
            case "put": return new int[] {k, hour};
            case "thief": return new int[] {cell, odd(0, 63), hour, n, odd(0, 1)};
            case "wedding": return new int[] {odd(0, 3), odd(0, 3), hour};
            case "spite": return new int[] {odd(0, 3), odd(0, 3), hour, odd(0, 99)};
            case "reading": return readingOf(cell, hour, m);
            case "measure": return new int[] {hour};
            case "draught": return new int[] {cell, hour, odd(0, below(2) == 0 ? 23 : 3), odd(0, 10)};
            case "nights": return new int[] {odd(0, 3), odd(0, 999999), odd(0, 30), odd(0, 100)};
            default: return new int[] {odd(0, call.equals("count") ? 6 : call.equals("status") ? 2 : 1)};
        }
    }

    /** Mostly what would be measured by some set, so that sets fit. */
    private int[] readingOf(int cell, int hour, Model m) {
        if (below(4) == 0 || !Model.in(cell, 0, 63)) {
            return new int[] {cell, hour, odd(0, 23)};
        }
        int light = Model.lightOf(Model.bySet(m.s.candles(), 93), m.s.fog(), cell, hour);
        return new int[] {cell, hour, light};
    }

    /** A text that is well made but for, now and then, a byte changed, lost or put in. */
    private String text() {
        StringBuilder t = new StringBuilder("valley ").append(below(11)).append(';');
        int items = below(10);
        for (int i = 0; i < items; i++) {
            if (below(4) == 0) {
                t.append(" out ").append(below(3)).append(' ').append(';');
            } else {
                t.append("candle ").append(below(6)).append(' ').append(below(64)).append(' ').append(1 + below(20))
                        .append(below(2) == 0 ? " " : "  ").append(below(4)).append(' ').append(below(13)).append(';');
            }
        }
        String spoilers = "; 0129az-A\0";
        for (int i = below(3); i > 1; i--) {
            int at = below(t.length());
            if (below(3) == 0) {
                t.deleteCharAt(at);
            } else if (below(2) == 0) {
                t.setCharAt(at, spoilers.charAt(below(spoilers.length())));
            } else {
                t.insert(at, spoilers.charAt(below(spoilers.length())));
            }
        }
        return below(20) == 0 ? t.substring(0, below(t.length())) : t.toString();
    }

    private void compare(CandleLand x, Model m, String call, int[] a, String run) {
        long want = m.call(call, a);
        long got = Calls.answer(x, call, a);
        if (got != want && wrong++ < 20) {
            System.out.println(run + ": " + call + Arrays.toString(a) + " answered " + got + ", due is " + want);
        }
    }

    /** Each run calls some calls often and others seldom, so that runs of the same calls come about, too. */
    private List<String> favoured() {
        List<String> calls = new ArrayList<>(List.of(Calls.NAMES));
        for (int i = 0; i < 4; i++) {
            String often = Calls.NAMES[below(Calls.NAMES.length)];
            for (int k = 0; k < 12; k++) {
                calls.add(often);
            }
        }
        return calls;
    }

    private void retype(CandleLand x, Model m, String text, String run) {
        compare(x, m, "clear", new int[0], run);
        for (int i = 0; i < text.length(); i++) {
            compare(x, m, "type", new int[] {text.charAt(i)}, run);
        }
    }

    private void run(int number) {
        CandleLand x = new CandleLand();
        Model m = new Model();
        String name = "run " + number;
        List<String> favoured = favoured();
        // a call, its digest, and the three of STATUS must still go in
        while (Calls.left(x) >= 5) {
            String call = favoured.get(below(favoured.size()));
            if (call.equals("read") && below(3) > 0) {
                String text = text();
                if (text.length() + 6 <= Calls.left(x)) {
                    retype(x, m, text, name);
                }
            }
            if (call.equals("valley") && below(4) > 0) {
                call = "candle";
            }
            compare(x, m, call, numbers(call, m), name);
            compare(x, m, "digest", new int[0], name);
        }
        for (int what = 0; what < 3; what++) {
            compare(x, m, "status", new int[] {what}, name);
        }
    }

    public static void main(String[] args) {
        ModelTests tests = new ModelTests();
        for (int i = 0; i < 600; i++) {
            tests.run(i);
        }
        System.out.println(tests.wrong == 0 ? "all answers are as due" : tests.wrong + " answers are not as due");
        if (tests.wrong != 0) {
            System.exit(1);
        }
    }
}
