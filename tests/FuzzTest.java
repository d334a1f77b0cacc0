import java.util.*;

/** Random runs of calls, each answer held against a reference that is written in another, plainer way. */
public final class FuzzTest {
    private static final int NONE = -1;
    private static final int NOTHING = -1000;
    private static final int[] DX = {0, 1, 0, -1, 0};
    private static final int[] DY = {-1, 0, 1, 0, 0};

    // ---- texts, as trees ----

    /** A place in a text at which it can't go on. */
    private static final class Fault extends RuntimeException {
        private static final long serialVersionUID = 1L;
        final int place;
        Fault(int place) {
            super(null, null, false, false);
            this.place = place;
        }
    }

    /** What makes a sum or a test broken. */
    private static final class Broken extends RuntimeException {
        private static final long serialVersionUID = 1L;
        Broken() {
            super(null, null, false, false);
        }
    }

    private interface Sum {
        long tell(Map<String, Integer> words);
    }

    private interface Test {
        boolean tell(Map<String, Integer> words);
    }

    private static final class Clause {
        String kind;
        Sum sum, direction, at, each;
        int times = 1;
        Test test;
    }

    private static long limited(long value) {
        if (Math.abs(value) > 1_000_000_000L) {
            throw new Broken();
        }
        return value;
    }

    private static final class Parser {
        final List<String> tokens = new ArrayList<>();
        final List<Integer> places = new ArrayList<>();
        final boolean laws;
        int next = 0, parts = 0, open = 0;

        Parser(String text, boolean laws) {
            this.laws = laws;
            java.util.regex.Matcher m = java.util.regex.Pattern.compile("[a-z]+|[0-9]+|[^ ]", java.util.regex.Pattern.DOTALL).matcher(text);
            while (m.find()) {
                tokens.add(m.group());
                places.add(m.start());
            }
            tokens.add("");
            places.add(text.length());
        }

        String peek() {
            return tokens.get(next);
        }

        Fault here() {
            return new Fault(places.get(next));
        }

        void need(String token) {
            if (!peek().equals(token)) {
                throw here();
            }
            next++;
        }

        boolean has(String token) {
            if (peek().equals(token)) {
                next++;
                return true;
            }
            return false;
        }

        List<Clause> text() {
            List<Clause> clauses = new ArrayList<>();
            do {
                if (clauses.size() == 12) {
                    throw here();
                }
                clauses.add(laws ? law() : drive());
            } while (has(";"));
            if (!peek().isEmpty()) {
                throw here();
            }
            return clauses;
        }

        Clause law() {
            Clause c = new Clause();
            c.kind = peek();
            if (!List.of("heats", "cools", "worth", "bars").contains(c.kind)) {
                throw here();
            }
            next++;
            if (!c.kind.equals("bars")) {
                c.sum = sum();
            }
            if (has("if")) {
                c.test = test();
            }
            return c;
        }

        Clause drive() {
            Clause c = new Clause();
            need("flag");
            c.sum = sum();
            need("to");
            c.direction = sum();
            need("at");
            c.at = sum();
            if (has("each")) {
                c.each = sum();
            }
            if (has("times")) {
                c.times = number(1, 20);
            }
            if (has("if")) {
                c.test = test();
            }
            return c;
        }

        int number(int least, int most) {
            String token = peek();
            if (token.isEmpty() || !Character.isDigit(token.charAt(0))) {
                throw here();
            }
            java.math.BigInteger value = new java.math.BigInteger(token);
            if (value.compareTo(java.math.BigInteger.valueOf(most)) > 0 || value.intValue() < least) {
                throw here();
            }
            next++;
            return value.intValue();
        }

        Test test() {
            List<Test> all = new ArrayList<>();
            do {
                all.add(both());
            } while (has("or"));
            return w -> {
                for (Test t : all) {
                    if (t.tell(w)) {
                        return true;
                    }
                }
                return false;
            };
        }

        Test both() {
            List<Test> all = new ArrayList<>();
            do {
                all.add(plain());
            } while (has("and"));
            return w -> {
                for (Test t : all) {
                    if (!t.tell(w)) {
                        return false;
                    }
                }
                return true;
            };
        }

        Test plain() {
            if (has("not")) {
                Test inner = plain();
                return w -> !inner.tell(w);
            }
            if (peek().equals("(")) {
                if (open == 8) {
                    throw here();
                }
                next++;
                open++;
                Test inner = test();
                need(")");
                open--;
                return inner;
            }
            Sum one = sum();
            String sign = peek();
            if (!List.of("<", ">", "=").contains(sign)) {
                throw here();
            }
            next++;
            Sum other = sum();
            return w -> {
                long a = one.tell(w), b = other.tell(w);
                return sign.equals("<") ? a < b : sign.equals(">") ? a > b : a == b;
            };
        }

        Sum sum() {
            Sum all = term();
            while (peek().equals("+") || peek().equals("-")) {
                boolean plus = has("+");
                if (!plus) {
                    next++;
                }
                Sum one = all, other = term();
                all = w -> {
                    long a = one.tell(w), b = other.tell(w);
                    return limited(plus ? a + b : a - b);
                };
            }
            return all;
        }

        Sum term() {
            Sum all = part();
            while (List.of("*", "/", "%").contains(peek())) {
                String sign = peek();
                next++;
                Sum one = all, other = part();
                all = w -> {
                    long a = one.tell(w), b = other.tell(w);
                    if (sign.equals("*")) {
                        return limited(a * b);
                    }
                    if (b == 0) {
                        throw new Broken();
                    }
                    return limited(sign.equals("/") ? a / b : a - a / b * b);
                };
            }
            return all;
        }

        Sum part() {
            String token = peek();
            if (token.equals("[")) {
                if (open == 8) {
                    throw here();
                }
                next++;
                open++;
                Sum inner = sum();
                need("]");
                open--;
                return inner;
            }
            if (parts == 50) {
                throw here();
            }
            if (!token.isEmpty() && Character.isDigit(token.charAt(0))) {
                int value = number(0, 1000);
                parts++;
                return w -> value;
            }
            List<String> words = laws ? List.of("x", "y", "hour", "cloud", "layer", "shade", "day", "mood")
                : List.of("clouds", "flags", "last", "done", "run", "day", "left", "top");
            if (!words.contains(token)) {
                throw here();
            }
            parts++;
            next++;
            if (token.equals("left") || token.equals("top")) {
                int cloud = number(0, 4);
                int hour = number(0, 11);
                String key = token + " " + cloud + " " + hour;
                return w -> w.get(key);
            }
            return w -> w.get(token);
        }
    }

    // ---- the reference ----

    private static final class World implements Cloneable {
        int[][] facts = new int[64][];
        int[][] winds = {{0, 0}, {0, 0}, {0, 0}};
        List<int[]> clouds = new ArrayList<>();
        List<int[]> flags = new ArrayList<>();
        List<int[]> contracts = new ArrayList<>();
        List<int[]> sights = new ArrayList<>();
        List<List<Clause>> laws = new ArrayList<>();
        int[] terms = {0, 2, 0};
        int force = NONE;

        World() {
            for (int f = 0; f < 64; f++) {
                facts[f] = new int[] {0, 100, 0};
            }
        }

        World copy() {
            World w = new World();
            for (int f = 0; f < 64; f++) {
                w.facts[f] = facts[f].clone();
            }
            for (int l = 0; l < 3; l++) {
                w.winds[l] = winds[l].clone();
            }
            w.clouds = new ArrayList<>(clouds);
            w.flags = new ArrayList<>(flags);
            w.contracts = new ArrayList<>(contracts);
            w.sights = new ArrayList<>(sights);
            w.laws = new ArrayList<>(laws);
            w.terms = terms.clone();
            w.force = force;
            return w;
        }

        // -- laws --

        int told(String kind, int without, int x, int y, int hour, int cloud, int layer, int shade) {
            if (force == NONE) {
                return without;
            }
            Map<String, Integer> words = new HashMap<>();
            words.put("x", x);
            words.put("y", y);
            words.put("hour", hour);
            words.put("cloud", cloud);
            words.put("layer", layer);
            words.put("shade", shade);
            words.put("day", terms[0]);
            words.put("mood", terms[2]);
            int answer = without;
            for (Clause c : laws.get(force)) {
                if (c.kind.equals(kind)) {
                    try {
                        if (c.test == null || c.test.tell(words)) {
                            answer = c.sum == null ? 1 : (int) Math.max(0, Math.min(99, c.sum.tell(words)));
                        }
                    } catch (Broken b) {
                        continue;
                    }
                }
            }
            return answer;
        }

        int heats(int field, int hour, int shade) {
            return told("heats", 5, field % 8, field / 8, hour, -1, -1, shade);
        }

        int cools(int field, int hour, int shade) {
            return told("cools", 3, field % 8, field / 8, hour, -1, -1, shade);
        }

        int worth(int field, int hour) {
            return told("worth", 1, field % 8, field / 8, hour, -1, -1, -1);
        }

        final Map<Long, Integer> useless = new HashMap<>();

        int useless(int cloud, int hour, int x, int y) {
            long key = ((cloud * 12L + hour) * 100 + x + 50) * 100 + y + 50;
            Integer known = useless.get(key);
            if (known == null) {
                known = told("bars", 0, x, y, hour, cloud, clouds.get(cloud)[2], -1) == 1 ? 1
                    : x >= 0 && x < 8 && y >= 0 && y < 8 && facts[8 * y + x][2] == 1 ? 2 : 0;
                useless.put(key, known);
            }
            return known;
        }

        // -- where clouds are: {x, y}, or null --

        int[] go(int cloud, int hour, int[] at, int one, int other, boolean turned) {
            if (at == null) {
                return null;
            }
            int[] wind = winds[clouds.get(cloud)[2]];
            int x = at[0] + (turned ? -wind[1] : wind[0]);
            int y = at[1] + (turned ? wind[0] : wind[1]);
            if (useless(cloud, hour, at[0], at[1]) == 0) {
                x += DX[one] + DX[other];
                y += DY[one] + DY[other];
            }
            return x < -8 || x > 15 || y < -8 || y > 15 ? null : new int[] {x, y};
        }

        int flagAt(int cloud, int hour) {
            for (int[] f : flags) {
                if (f[0] == hour && f[1] == cloud) {
                    return f[2];
                }
            }
            return 4;
        }

        int[] start(int cloud) {
            return new int[] {clouds.get(cloud)[3], clouds.get(cloud)[4]};
        }

        int[] where(int cloud, int hour) {
            int[] at = start(cloud);
            for (int h = 0; h < hour; h++) {
                at = go(cloud, h, at, flagAt(cloud, h), 4, false);
            }
            return at;
        }

        boolean over(int[] shape, int[] at, int field) {
            return at != null && field % 8 >= at[0] && field % 8 < at[0] + shape[0]
                && field / 8 >= at[1] && field / 8 < at[1] + shape[1];
        }

        boolean over(int cloud, int[] at, int field) {
            return over(clouds.get(cloud), at, field);
        }

        int shade(int field, int hour) {
            int shade = 0;
            for (int c = 0; c < clouds.size(); c++) {
                shade += over(c, where(c, hour), field) ? 1 : 0;
            }
            return shade;
        }

        int breakHour(int[] contract) {
            for (int h = contract[1]; h <= contract[2]; h++) {
                if ((shade(contract[0], h) > 0) != (contract[3] == 1)) {
                    return h;
                }
            }
            return NONE;
        }

        boolean seen() {
            for (int[] s : sights) {
                if ((shade(s[1], s[0]) > 0) != (s[2] == 1)) {
                    return false;
                }
            }
            return true;
        }

        int heat(int field, int hour, boolean highest, int[][] shades) {
            int heat = facts[field][0];
            int high = heat;
            for (int h = 0; h < hour; h++) {
                int s = shades[h][field];
                heat = s == 0 ? heat + heats(field, h, s) : Math.max(0, heat - cools(field, h, s));
                high = Math.max(high, heat);
            }
            return highest ? high : heat;
        }

        int[][] shades() {
            int[][] shades = new int[12][64];
            for (int h = 0; h < 12; h++) {
                int[][] at = new int[clouds.size()][];
                for (int c = 0; c < at.length; c++) {
                    at[c] = where(c, h);
                }
                shades[h] = shadesOf(at);
            }
            return shades;
        }

        int[] shadesOf(int[][] at) {
            int[] shades = new int[64];
            for (int c = 0; c < at.length; c++) {
                for (int f = 0; f < 64; f++) {
                    shades[f] += over(c, at[c], f) ? 1 : 0;
                }
            }
            return shades;
        }

        // -- on paper --

        private static String key(int[] at) {
            return at == null ? "gone" : at[0] + " " + at[1];
        }

        /** A row of directions that leads somewhere. */
        private static final class Way {
            int[] at;
            int flags;
            int worth;
            String row;
            Way(int[] at, int flags, int worth, String row) {
                this.at = at;
                this.flags = flags;
                this.worth = worth;
                this.row = row;
            }
        }

        /** The best row to a told shade, all forward; null if there is none. */
        Way drive(int cloud, int field, int from, int till) {
            Map<String, Way> ways = new HashMap<>();
            ways.put("", new Way(start(cloud), 0, 0, ""));
            for (int h = 0; ; h++) {
                int hour = h;
                if (h >= from) {
                    ways.values().removeIf(w -> !over(cloud, w.at, field));
                }
                if (h == till) {
                    break;
                }
                Map<String, Way> further = new HashMap<>();
                for (Way w : ways.values()) {
                    for (int d = 0; d < 5; d++) {
                        Way n = new Way(go(cloud, hour, w.at, d, 4, false), w.flags + (d < 4 ? 1 : 0), 0, w.row + d);
                        further.merge(key(n.at), n, World::fewer);
                    }
                }
                ways = further;
            }
            return ways.values().stream().reduce(World::fewer).orElse(null);
        }

        private static Way fewer(Way a, Way b) {
            int order = a.flags != b.flags ? a.flags - b.flags : a.row.compareTo(b.row);
            return order <= 0 ? a : b;
        }

        private static Way richer(Way a, Way b) {
            int order = a.worth != b.worth ? b.worth - a.worth : a.row.compareTo(b.row);
            return order <= 0 ? a : b;
        }

        Way pasture(int cloud, int n) {
            Map<String, Way> ways = new HashMap<>();
            ways.put("", new Way(start(cloud), 0, 0, ""));
            for (int h = 0; ; h++) {
                int[] worths = new int[64];
                for (int f = 0; f < 64; f++) {
                    worths[f] = worth(f, h);
                }
                for (Way w : ways.values()) {
                    for (int f = 0; f < 64; f++) {
                        w.worth += over(cloud, w.at, f) ? worths[f] : 0;
                    }
                }
                if (h == 11) {
                    break;
                }
                Map<String, Way> further = new HashMap<>();
                for (Way w : ways.values()) {
                    for (int d = w.flags < n ? 0 : 4; d < 5; d++) {
                        Way to = new Way(go(cloud, h, w.at, d, 4, false), w.flags + (d < 4 ? 1 : 0), w.worth, w.row + d);
                        further.merge(key(to.at) + " " + to.flags, to, World::richer);
                    }
                }
                ways = further;
            }
            return ways.values().stream().reduce(World::richer).orElse(null);
        }

        int[] serve(int cloud) {
            int most = 0, which = 0;
            for (int bits = 1; bits < 1 << contracts.size(); bits++) {
                int fees = 0;
                boolean can = true;
                for (int c = 0; c < contracts.size(); c++) {
                    if ((bits >> c & 1) == 1) {
                        fees += contracts.get(c)[4];
                        can &= contracts.get(c)[3] == 1;
                    }
                }
                if (can && fees > most && keeps(cloud, bits)) {
                    most = fees;
                    which = bits;
                }
            }
            return new int[] {most, which};
        }

        boolean keeps(int cloud, int bits) {
            Map<String, int[]> at = new HashMap<>();
            at.put("", start(cloud));
            for (int h = 0; h < 12; h++) {
                int hour = h;
                for (int c = 0; c < contracts.size(); c++) {
                    int[] k = contracts.get(c);
                    if ((bits >> c & 1) == 1 && h >= k[1] && h <= k[2]) {
                        at.values().removeIf(p -> !over(cloud, p, k[0]));
                    }
                }
                if (h < 11) {
                    Map<String, int[]> further = new HashMap<>();
                    for (int[] p : at.values()) {
                        for (int d = 0; d < 5; d++) {
                            int[] to = go(cloud, hour, p, d, 4, false);
                            further.put(key(to), to);
                        }
                    }
                    at = further;
                }
            }
            return !at.isEmpty();
        }

        int common(int one, int[] oneAt, int other, int[] otherAt) {
            int fields = 0;
            for (int f = 0; f < 64; f++) {
                fields += over(one, oneAt, f) && over(other, otherAt, f) ? 1 : 0;
            }
            return fields;
        }

        int part(int one, int other) {
            Map<String, Way> ways = new HashMap<>();
            ways.put("", new Way(start(one), 0, 0, ""));
            for (int h = 0; ; h++) {
                int[] otherAt = where(other, h);
                ways.values().removeIf(w -> common(one, w.at, other, otherAt) > 0);
                if (h == 11) {
                    break;
                }
                Map<String, Way> further = new HashMap<>();
                for (Way w : ways.values()) {
                    for (int d = 0; d < 5; d++) {
                        Way n = new Way(go(one, h, w.at, d, 4, false), w.flags + (d < 4 ? 1 : 0), 0, "");
                        further.merge(key(n.at), n, World::fewer);
                    }
                }
                ways = further;
            }
            return ways.values().stream().mapToInt(w -> w.flags).min().orElse(NONE);
        }

        /** In units of ten to the power of less the hours that are left, so that nothing is ever cut. */
        long likely(int cloud, int field, int hour, int now, int[] at) {
            if (now == hour) {
                return over(cloud, at, field) ? 1 : 0;
            }
            if (at == null) {
                return 0;
            }
            int d = flagAt(cloud, now);
            return (10 - terms[1]) * likely(cloud, field, hour, now + 1, go(cloud, now, at, d, 4, false))
                + terms[1] * likely(cloud, field, hour, now + 1, go(cloud, now, at, d, 4, true));
        }

        long scaled(long chance, int hours) {
            long unit = 1_000_000_000_000L;
            for (int h = 0; h < hours; h++) {
                unit /= 10;
            }
            return chance * unit;
        }

        /** {the chance in such units, the first direction} */
        long[] surest(int cloud, int field, int hour, int now, int[] at, Map<String, long[]> known) {
            if (now == hour) {
                return new long[] {over(cloud, at, field) ? 1 : 0, NONE};
            }
            if (at == null) {
                return new long[] {0, 0};
            }
            String key = now + ":" + key(at);
            long[] best = known.get(key);
            if (best == null) {
                best = new long[] {-1, NONE};
                for (int d = 0; d < 5; d++) {
                    long chance = (10 - terms[1]) * surest(cloud, field, hour, now + 1, go(cloud, now, at, d, 4, false), known)[0]
                        + terms[1] * surest(cloud, field, hour, now + 1, go(cloud, now, at, d, 4, true), known)[0];
                    if (chance > best[0]) {
                        best = new long[] {chance, d};
                    }
                }
                known.put(key, best);
            }
            return best;
        }

        /** The lowest direction by which the first wins, NONE if there is none. */
        int duel(int cloud, int field, int hour, int now, int[] at, Map<String, Integer> known) {
            if (now == hour) {
                return over(cloud, at, field) ? 0 : NONE;
            }
            if (at == null) {
                return NONE;
            }
            String key = now + ":" + key(at);
            Integer first = known.get(key);
            if (first == null) {
                first = NONE;
                for (int d = 0; d < 5 && first == NONE; d++) {
                    boolean always = true;
                    for (int e = 0; e < 5 && always; e++) {
                        always = duel(cloud, field, hour, now + 1, go(cloud, now, at, d, e, false), known) != NONE;
                    }
                    first = always ? d : NONE;
                }
                known.put(key, first);
            }
            return first;
        }

        // -- who was there --

        List<Integer> strays(int wide, int tall, int layer) {
            List<Integer> found = new ArrayList<>();
            for (int y = -8; y <= 15; y++) {
                for (int x = -8; x <= 15; x++) {
                    boolean so = true;
                    for (int[] s : sights) {
                        int[] at = {x, y};
                        for (int h = 0; h < s[0] && at != null; h++) {
                            int nx = at[0] + winds[layer][0], ny = at[1] + winds[layer][1];
                            at = nx < -8 || nx > 15 || ny < -8 || ny > 15 ? null : new int[] {nx, ny};
                        }
                        so &= over(new int[] {wide, tall}, at, s[1]) == (s[2] == 1);
                    }
                    if (so) {
                        found.add(24 * (y + 8) + x + 8);
                    }
                }
            }
            return found;
        }

        List<Integer> rustlers() {
            List<Integer> found = new ArrayList<>();
            for (int h = 0; h < 11; h++) {
                for (int c = 0; c < clouds.size(); c++) {
                    for (int d = 0; d < 4; d++) {
                        if (flagAt(c, h) == 4) {
                            flags.add(new int[] {h, c, d});
                            if (seen()) {
                                found.add(h * 20 + c * 4 + d);
                            }
                            flags.remove(flags.size() - 1);
                        }
                    }
                }
            }
            return found;
        }

        /** By Dilworth: as many as flags of which none can be of the same man. */
        int men() {
            List<int[]> posts = new ArrayList<>();
            for (int[] f : flags) {
                int[] at = where(f[1], f[0]);
                if (at != null) {
                    posts.add(new int[] {f[0], at[0], at[1]});
                }
            }
            int n = posts.size();
            int[] together = new int[n];
            for (int a = 0; a < n; a++) {
                for (int b = 0; b < n; b++) {
                    int[] p = posts.get(a), q = posts.get(b);
                    boolean same = Math.abs(p[1] - q[1]) + Math.abs(p[2] - q[2]) <= Math.abs(p[0] - q[0]);
                    together[a] |= same ? 1 << b : 0;
                }
            }
            return apart(together, (1 << n) - 1);
        }

        int apart(int[] together, int left) {
            if (left == 0) {
                return 0;
            }
            int a = Integer.numberOfTrailingZeros(left);
            int most = 1 + apart(together, left & ~together[a]);
            int others = left & together[a] & ~(1 << a);
            return others == 0 ? most : Math.max(most, apart(together, left & ~(1 << a)));
        }
    }

    private static final class Reference {
        World world = new World();
        World[] images = new World[2];
        StringBuilder tape = new StringBuilder();
        int fault = NONE, stopped = NONE, haze = 0, status = 0;
        int[] drawn = null;
        Map<Integer, Integer> refused = new HashMap<>();

        int no(int why) {
            status = why;
            refused.merge(why, 1, Integer::sum);
            return why;
        }

        int yes(int answer) {
            status = 0;
            world.useless.clear();
            return answer;
        }

        static boolean in(int n, int a, int b) {
            return a <= n && n <= b;
        }

        boolean isCloud(int c) {
            return in(c, 0, world.clouds.size() - 1);
        }

        int put(int f, int what, int v) {
            int[][] ranges = {{0, 99}, {1, 999}, {0, 1}};
            if (!in(f, 0, 63) || !in(what, 0, 2) || !in(v, ranges[what][0], ranges[what][1])) {
                return no(-1);
            }
            int was = world.facts[f][what];
            world.facts[f][what] = v;
            return yes(was);
        }

        int fact(int f, int what) {
            return in(f, 0, 63) && in(what, 0, 2) ? world.facts[f][what] : NONE;
        }

        int wind(int l, int x, int y) {
            if (!in(l, 0, 2) || !in(x, -1, 1) || !in(y, -1, 1)) {
                return no(-1);
            }
            world.winds[l] = new int[] {x, y};
            return yes(0);
        }

        int cloud(int w, int t, int l, int x, int y) {
            if (!in(w, 1, 3) || !in(t, 1, 3) || !in(l, 0, 2) || !in(x, -8, 15) || !in(y, -8, 15)) {
                return no(-1);
            }
            if (world.clouds.size() == 5) {
                return no(-5);
            }
            world.clouds.add(new int[] {w, t, l, x, y});
            return yes(world.clouds.size() - 1);
        }

        int of(int c, int what) {
            return isCloud(c) && in(what, 0, 4) ? world.clouds.get(c)[what] : NOTHING;
        }

        int canFlag(long h, long c, long d) {
            if (h < 0 || h > 10 || d < 0 || d > 3) {
                return -1;
            }
            if (c < 0 || c >= world.clouds.size()) {
                return -2;
            }
            return world.flagAt((int) c, (int) h) != 4 ? -3 : world.flags.size() >= 24 ? -5 : 0;
        }

        int flag(int h, int c, int d) {
            int why = canFlag(h, c, d);
            if (why != 0) {
                return no(why);
            }
            world.flags.add(new int[] {h, c, d});
            return yes(world.flags.size());
        }

        int undo() {
            return world.flags.isEmpty() ? no(-3) : yes(world.flags.remove(world.flags.size() - 1)[0]);
        }

        int contract(int f, int from, int till, int is, int fee) {
            if (!in(f, 0, 63) || !in(from, 0, 11) || !in(till, from, 11) || !in(is, 0, 1) || !in(fee, 1, 99)) {
                return no(-1);
            }
            if (world.contracts.size() == 8) {
                return no(-5);
            }
            world.contracts.add(new int[] {f, from, till, is, fee});
            return yes(world.contracts.size() - 1);
        }

        int cancel() {
            int n = world.contracts.size();
            world.contracts.clear();
            return n;
        }

        int terms(int what, int v) {
            if (!in(what, 0, 2) || !in(v, 0, new int[] {99, 10, 9}[what])) {
                return no(-1);
            }
            int was = world.terms[what];
            world.terms[what] = v;
            return yes(was);
        }

        int feed(int... five) {
            if (tape.length() > 380) {
                return NONE;
            }
            for (int n : five) {
                for (byte b : java.nio.ByteBuffer.allocate(4).putInt(n).array()) {
                    tape.append((char) (b & 255));
                }
            }
            return tape.length();
        }

        int end(int n) {
            if (!in(n, 0, tape.length())) {
                return NONE;
            }
            tape.setLength(n);
            return n;
        }

        int row() {
            String t = tape.toString();
            tape.setLength(0);
            if (t.isEmpty() || t.charAt(0) > 7) {
                return no(-6);
            }
            int told = 0;
            haze = 0;
            for (int i = 1; i < t.length(); i++) {
                if (i < 9 && t.charAt(i) != 0) {
                    world.facts[8 * t.charAt(0) + i - 1][1] = t.charAt(i);
                    told++;
                } else {
                    haze++;
                }
            }
            return yes(told);
        }

        int law() {
            String t = tape.toString();
            tape.setLength(0);
            if (world.laws.size() == 6) {
                return no(-5);
            }
            fault = NONE;
            try {
                world.laws.add(new Parser(t, true).text());
                return yes(world.laws.size() - 1);
            } catch (Fault f) {
                fault = f.place;
                return no(-6);
            }
        }

        int drives() {
            String t = tape.toString();
            tape.setLength(0);
            fault = NONE;
            stopped = NONE;
            List<Clause> clauses;
            try {
                clauses = new Parser(t, false).text();
            } catch (Fault f) {
                fault = f.place;
                return no(-6);
            }
            List<int[]> former = new ArrayList<>(world.flags);
            int last = NONE, done = 0;
            for (int c = 0; c < clauses.size(); c++) {
                Clause clause = clauses.get(c);
                int run = 0;
                for (int time = 0; time < clause.times; time++) {
                    Map<String, Integer> words = words(last, done, run);
                    boolean so = true;
                    try {
                        so = clause.test == null || clause.test.tell(words);
                    } catch (Broken b) {
                        so = false;
                    }
                    if (!so) {
                        continue;
                    }
                    int why;
                    long hour = 0;
                    try {
                        long cloud = clause.sum.tell(words), direction = clause.direction.tell(words);
                        hour = clause.at.tell(words) + (clause.each == null ? 0 : clause.each.tell(words)) * run;
                        why = canFlag(hour, cloud, direction);
                        if (why == 0) {
                            world.flags.add(new int[] {(int) hour, (int) cloud, (int) direction});
                        }
                    } catch (Broken b) {
                        why = -3;
                    }
                    if (why != 0) {
                        world.flags = former;
                        stopped = c;
                        return no(why == -5 ? -5 : -3);
                    }
                    last = (int) hour;
                    done++;
                    run++;
                }
            }
            return yes(done);
        }

        Map<String, Integer> words(int last, int done, int run) {
            Map<String, Integer> words = new HashMap<>();
            words.put("clouds", world.clouds.size());
            words.put("flags", world.flags.size());
            words.put("last", last);
            words.put("done", done);
            words.put("run", run);
            words.put("day", world.terms[0]);
            for (int c = 0; c < 5; c++) {
                for (int h = 0; h < 12; h++) {
                    int[] at = isCloud(c) ? world.where(c, h) : null;
                    words.put("left " + c + " " + h, at == null ? 100 : at[0]);
                    words.put("top " + c + " " + h, at == null ? 100 : at[1]);
                }
            }
            return words;
        }

        int force(int law) {
            if (law != NONE && !in(law, 0, world.laws.size() - 1)) {
                return no(-2);
            }
            int was = world.force;
            world.force = law;
            return yes(was);
        }

        int asks(int f, int h, int what) {
            if (!in(f, 0, 63) || !in(h, 0, 11) || !in(what, 0, 3)) {
                return NONE;
            }
            int s = world.shade(f, h);
            return what == 0 ? s : what == 1 ? world.heats(f, h, s) : what == 2 ? world.cools(f, h, s) : world.worth(f, h);
        }

        int at(int c, int h, int what) {
            if (!isCloud(c) || !in(h, 0, 11) || !in(what, 0, 2)) {
                return NOTHING;
            }
            int[] at = world.where(c, h);
            return at == null ? NOTHING : what < 2 ? at[what] : world.useless(c, h, at[0], at[1]);
        }

        int dark(int h) {
            if (!in(h, 0, 11)) {
                return NONE;
            }
            int n = 0;
            for (int f = 0; f < 64; f++) {
                n += world.shade(f, h) > 0 ? 1 : 0;
            }
            return n;
        }

        int heat(int f, int h) {
            return in(f, 0, 63) && in(h, 0, 12) ? world.heat(f, h, false, world.shades()) : NONE;
        }

        static int listed(List<Integer> all, int i) {
            return i == NONE ? all.size() : in(i, 0, all.size() - 1) ? all.get(i) : NONE;
        }

        int scorched(int i) {
            List<Integer> all = new ArrayList<>();
            int[][] shades = world.shades();
            for (int f = 0; f < 64; f++) {
                if (world.heat(f, 12, true, shades) > world.facts[f][1]) {
                    all.add(f);
                }
            }
            return listed(all, i);
        }

        int broken(int c) {
            return in(c, 0, world.contracts.size() - 1) ? world.breakHour(world.contracts.get(c)) : NONE;
        }

        int judge(int what) {
            int fees = 0, first = NONE, hour = 99;
            for (int c = 0; c < world.contracts.size(); c++) {
                int h = world.breakHour(world.contracts.get(c));
                if (h == NONE) {
                    fees += world.contracts.get(c)[4];
                } else if (h < hour) {
                    hour = h;
                    first = c;
                }
            }
            return what == 0 ? first : what == 1 ? fees : NONE;
        }

        int drive(int c, int f, int from, int till, int i) {
            if (!isCloud(c) || !in(f, 0, 63) || !in(from, 0, 11) || !in(till, from, 11) || !in(i, NONE, till - 1)) {
                return NONE;
            }
            World.Way way = world.drive(c, f, from, till);
            return way == null ? NONE : i == NONE ? way.flags : way.row.charAt(i) - '0';
        }

        int pasture(int c, int n, int i) {
            if (!isCloud(c) || !in(n, 0, 11) || !in(i, NONE, 10)) {
                return NONE;
            }
            World.Way way = world.pasture(c, n);
            return i == NONE ? way.worth : way.row.charAt(i) - '0';
        }

        int serve(int c, int what) {
            return isCloud(c) && in(what, 0, 1) ? world.serve(c)[what] : NONE;
        }

        int cross(int a, int b, int what) {
            if (!isCloud(a) || !isCloud(b) || a == b || !in(what, 0, 1)) {
                return NONE;
            }
            for (int h = 0; h < 12; h++) {
                int n = world.common(a, world.where(a, h), b, world.where(b, h));
                if (n > 0) {
                    return what == 0 ? h : n;
                }
            }
            return NONE;
        }

        int part(int a, int b) {
            return isCloud(a) && isCloud(b) && a != b ? world.part(a, b) : NONE;
        }

        boolean over(int c, int f, int h) {
            return isCloud(c) && in(f, 0, 63) && in(h, 0, 11);
        }

        long likely(int c, int f, int h) {
            return over(c, f, h) ? world.scaled(world.likely(c, f, h, 0, world.start(c)), h) : NONE;
        }

        long surest(int c, int f, int h) {
            return over(c, f, h) ? world.scaled(world.surest(c, f, h, 0, world.start(c), new HashMap<>())[0], h) : NONE;
        }

        int steer(int c, int f, int h, int now, int x, int y) {
            if (!over(c, f, h) || !in(now, 0, h - 1) || !in(x, -8, 15) || !in(y, -8, 15)) {
                return NONE;
            }
            return (int) world.surest(c, f, h, now, new int[] {x, y}, new HashMap<>())[1];
        }

        int sight(int h, int f, int is) {
            if (!in(h, 0, 11) || !in(f, 0, 63) || !in(is, 0, 1)) {
                return no(-1);
            }
            if (world.sights.size() == 10) {
                return no(-5);
            }
            world.sights.add(new int[] {h, f, is});
            return yes(world.sights.size());
        }

        int forget() {
            int n = world.sights.size();
            world.sights.clear();
            return n;
        }

        int stray(int w, int t, int l, int i) {
            return in(w, 1, 3) && in(t, 1, 3) && in(l, 0, 2) ? listed(world.strays(w, t, l), i) : NONE;
        }

        int rustled(int i) {
            return listed(world.rustlers(), i);
        }

        int men() {
            return world.men();
        }

        int duel(int c, int f, int h, int what) {
            if (!over(c, f, h) || !in(what, 0, 1)) {
                return NONE;
            }
            int first = world.duel(c, f, h, 0, world.start(c), new HashMap<>());
            return what == 0 ? first == NONE ? 0 : 1 : h == 0 ? NONE : first;
        }

        int summer(int seed, int n) {
            if (!in(seed, 0, 1_000_000) || !in(n, 1, 30)) {
                return no(-1);
            }
            drawn = new int[64];
            int all = 0;
            long s = seed;
            for (int day = 0; day < n; day++) {
                int[][] at = new int[world.clouds.size()][];
                int[][] shades = new int[12][];
                for (int c = 0; c < at.length; c++) {
                    at[c] = world.start(c);
                }
                for (int h = 0; h < 12; h++) {
                    shades[h] = world.shadesOf(at);
                    for (int c = 0; c < at.length && h < 11; c++) {
                        if (at[c] != null) {
                            s = (s * 1103 + 12345) % 1_000_003;
                            at[c] = world.go(c, h, at[c], world.flagAt(c, h), 4, s % 10 < world.terms[1]);
                        }
                    }
                }
                for (int f = 0; f < 64; f++) {
                    if (world.heat(f, 12, true, shades) > world.facts[f][1]) {
                        drawn[f]++;
                        all++;
                    }
                }
            }
            return yes(all);
        }

        int drawn(int f) {
            return drawn != null && in(f, 0, 63) ? drawn[f] : NONE;
        }

        int image(int k) {
            if (!in(k, 0, 1)) {
                return no(-1);
            }
            images[k] = world.copy();
            return yes(0);
        }

        int back(int k) {
            if (!in(k, 0, 1)) {
                return no(-1);
            }
            if (images[k] == null) {
                return no(-2);
            }
            world = images[k].copy();
            return yes(0);
        }

        int count(int what) {
            int[] all = {world.clouds.size(), world.flags.size(), world.contracts.size(), world.sights.size(),
                world.laws.size(), tape.length(), refused.getOrDefault(-1, 0), refused.getOrDefault(-2, 0),
                refused.getOrDefault(-3, 0), refused.getOrDefault(-5, 0), refused.getOrDefault(-6, 0),
                world.force, world.terms[0], world.terms[1], world.terms[2]};
            return in(what, 0, 14) ? all[what] : NONE;
        }
    }

    // ---- random texts ----

    private static final class Writer {
        final Random random;
        final boolean laws;
        int left;

        Writer(Random random, boolean laws, int parts) {
            this.random = random;
            this.laws = laws;
            left = parts;
        }

        private String pick(String... all) {
            return all[random.nextInt(all.length)];
        }

        List<String> text() {
            List<String> out = new ArrayList<>();
            int clauses = 1 + (random.nextInt(9) == 0 ? random.nextInt(13) : random.nextInt(3));
            for (int c = 0; c < clauses; c++) {
                if (c > 0) {
                    out.add(";");
                }
                if (laws) {
                    law(out);
                } else {
                    drive(out);
                }
            }
            return out;
        }

        void law(List<String> out) {
            String kind = pick("heats", "cools", "worth", "bars");
            out.add(kind);
            if (!kind.equals("bars")) {
                sum(out, random.nextInt(3));
            }
            if (kind.equals("bars") || random.nextInt(2) == 0) {
                out.add("if");
                test(out, random.nextInt(3));
            }
        }

        void drive(List<String> out) {
            out.add("flag");
            small(out, "0", "1", "clouds - 1", "0", "2", "done % clouds", "flags % clouds");
            out.add("to");
            small(out, "0", "1", "2", "3", "run % 4", "[ done + 1 ] % 4", "left 0 3 % 4", "top 1 2 / 3", random.nextInt(4) == 0 ? "4" : "1");
            out.add("at");
            small(out, "0", "1", "last + 1", "run", "2", "done", "5", "10");
            if (random.nextInt(3) == 0) {
                out.add("each");
                small(out, "1", "2", "0", "0 - 1", "run");
            }
            if (random.nextInt(2) == 0) {
                out.add("times");
                out.add(pick("1", "2", "3", "4", "5", "11", "20", random.nextInt(5) == 0 ? "0" : "2", random.nextInt(5) == 0 ? "21" : "3", "007"));
            }
            if (random.nextInt(3) == 0) {
                out.add("if");
                test(out, random.nextInt(3));
            }
        }

        void small(List<String> out, String... all) {
            if (random.nextInt(20) == 0) {
                sum(out, random.nextInt(3));
            } else {
                out.addAll(List.of(pick(all).split(" ")));
            }
        }

        void sum(List<String> out, int depth) {
            term(out, depth);
            for (int i = random.nextInt(3) / 2 + random.nextInt(2) * depth; i > 0; i--) {
                out.add(pick("+", "-"));
                term(out, depth);
            }
        }

        void term(List<String> out, int depth) {
            part(out, depth);
            for (int i = random.nextInt(4) / 3 + random.nextInt(2) * depth / 2; i > 0; i--) {
                out.add(pick("*", "/", "%"));
                part(out, depth);
            }
        }

        void part(List<String> out, int depth) {
            if (depth > 0 && random.nextInt(3) == 0) {
                out.add("[");
                sum(out, depth - 1);
                out.add("]");
            } else if (random.nextInt(2) == 0) {
                out.add(pick("0", "1", "2", "3", "5", "7", "10", "99", "1000", random.nextInt(9) == 0 ? "1001" : "9", "4", "6", "0012"));
            } else if (laws) {
                out.add(pick("x", "y", "hour", "cloud", "layer", "shade", "day", "mood"));
            } else {
                String word = pick("clouds", "flags", "last", "done", "run", "day", "left", "top");
                out.add(word);
                if (word.equals("left") || word.equals("top")) {
                    out.add("" + random.nextInt(random.nextInt(40) == 0 ? 7 : 5));
                    out.add("" + random.nextInt(random.nextInt(40) == 0 ? 14 : 12));
                }
            }
        }

        void test(List<String> out, int depth) {
            both(out, depth);
            for (int i = random.nextInt(3) / 2 + random.nextInt(2) * depth; i > 0; i--) {
                out.add("or");
                both(out, depth);
            }
        }

        void both(List<String> out, int depth) {
            plain(out, depth);
            for (int i = random.nextInt(3) / 2; i > 0; i--) {
                out.add("and");
                plain(out, depth);
            }
        }

        void plain(List<String> out, int depth) {
            for (int i = random.nextInt(6) / 4; i > 0; i--) {
                out.add("not");
            }
            if (depth > 0 && random.nextInt(2) == 0) {
                out.add("(");
                test(out, depth - 1);
                out.add(")");
            } else {
                sum(out, depth);
                out.add(pick("<", ">", "="));
                sum(out, depth);
            }
        }

        void spoil(List<String> out) {
            int at = random.nextInt(out.size());
            String other = pick("[", "]", "(", ")", "if", "or", "and", "not", "flag", "heats", "x", "day", "7", "1001", ";", "+",
                "*", "<", "=", "X", "\t", "shad", "left", "top", "times", "each", "to", "at", "\u00e9", "_");
            switch (random.nextInt(4)) {
                case 0: out.remove(at); break;
                case 1: out.add(at, other); break;
                case 2: out.set(at, other); break;
                default: Collections.swap(out, at, random.nextInt(out.size())); break;
            }
        }

        /** Deep brackets and long sums, about where the limits are. */
        List<String> limits() {
            List<String> out = new ArrayList<>();
            int deep = 6 + random.nextInt(4);
            int many = 40 + random.nextInt(14);
            String lead = laws ? "worth" : "flag";
            out.add(lead);
            if (random.nextInt(2) == 0) {
                for (int i = 0; i < deep; i++) {
                    out.add("[");
                }
                out.add("1");
                for (int i = 0; i < deep; i++) {
                    out.add("]");
                }
            } else {
                out.add("1");
                for (int i = 1; i < many; i++) {
                    out.add(pick("+", "-"));
                    out.add(pick("0", "1"));
                }
            }
            if (!laws) {
                out.addAll(List.of("to", "1", "at", "2"));
            }
            out.add("if");
            for (int i = 0; i < deep - 1; i++) {
                out.add("(");
                if (random.nextInt(3) == 0) {
                    out.add("not");
                }
            }
            out.addAll(List.of("[", "1", "]", "=", "day"));
            for (int i = 0; i < deep - 1; i++) {
                out.add(")");
            }
            return out;
        }

        String written() {
            List<String> out = random.nextInt(12) == 0 ? limits() : text();
            if (random.nextInt(6) == 0) {
                spoil(out);
            }
            StringBuilder text = new StringBuilder();
            for (String token : out) {
                char last = text.length() == 0 ? ' ' : text.charAt(text.length() - 1);
                char first = token.charAt(0);
                boolean letters = Character.isLetter(last) && Character.isLetter(first);
                boolean digits = Character.isDigit(last) && Character.isDigit(first);
                for (int i = letters || digits ? 1 : random.nextInt(2); i > 0; i--) {
                    text.append(' ');
                }
                text.append(token);
            }
            if (random.nextInt(6) == 0) {
                text.append("  ");
            }
            return text.toString();
        }
    }

    // ---- random calls ----

    private static final class Run {
        final Random random;
        final ShadowHerds tried = new ShadowHerds();
        final Reference due = new Reference();
        final List<String> calls = new ArrayList<>();
        /** Whether wrong numbers are rare. */
        final boolean tame;
        /** Whether clouds stay about the plain. */
        final boolean calm;
        /** Whether things are told until there is no room. */
        final boolean busy;

        Run(long seed) {
            random = new Random(seed);
            tame = random.nextInt(3) > 0;
            calm = random.nextInt(2) == 0;
            busy = random.nextInt(4) == 0;
        }

        int r(int least, int most) {
            if (random.nextInt(tame ? 60 : 15) == 0) {
                int[] odd = {least - 1, most + 1, Integer.MIN_VALUE, Integer.MAX_VALUE, 1000, -1000};
                return odd[random.nextInt(random.nextInt(3) == 0 ? odd.length : 2)];
            }
            return least + random.nextInt(most - least + 1);
        }

        int c() {
            int n = due.world.clouds.size();
            return n > 0 && random.nextInt(10) > 0 ? random.nextInt(n) : r(0, 4);
        }

        boolean same(String call, long got, long want) {
            calls.add(call + " = " + want);
            if (got != want) {
                System.out.println("fuzz: " + String.join("; ", calls.subList(Math.max(0, calls.size() - 60), calls.size()))
                    + " BUT answered " + got);
                return false;
            }
            return true;
        }

        boolean fed(String text) {
            boolean so = true;
            while (text.length() % 20 != 0 || text.isEmpty()) {
                text += (char) random.nextInt(256);
            }
            for (int i = 0; i + 20 <= text.length() && so; i += 20) {
                int[] n = new int[5];
                for (int k = 0; k < 20; k++) {
                    n[k / 4] = n[k / 4] << 8 | text.charAt(i + k);
                }
                so = same("feed(" + n[0] + "," + n[1] + "," + n[2] + "," + n[3] + "," + n[4] + ")",
                    tried.feed(n[0], n[1], n[2], n[3], n[4]), due.feed(n));
            }
            return so;
        }

        boolean ended(int n) {
            return same("end(" + n + ")", tried.end(n), due.end(n));
        }

        boolean text() {
            boolean laws = random.nextBoolean();
            String text = new Writer(random, laws, 60).written();
            if (text.length() > 400) {
                text = text.substring(0, 400);
            }
            if (!ended(0) || !fed(text) || !ended(text.length())) {
                return false;
            }
            boolean asLaw = laws == random.nextInt(12) > 0;
            boolean so = asLaw ? same("law() of " + text, tried.law(), due.law())
                : same("drives() of " + text, tried.drives(), due.drives());
            return so && small();
        }

        boolean row() {
            StringBuilder text = new StringBuilder();
            text.append((char) random.nextInt(9));
            for (int i = random.nextInt(12); i > 0; i--) {
                text.append((char) (random.nextInt(3) == 0 ? 0 : random.nextInt(256)));
            }
            int n = text.length();
            boolean so = random.nextInt(6) == 0 || ended(0) && fed(text.toString()) && ended(n);
            return so && same("row()", tried.row(), due.row()) && same("haze()", tried.haze(), due.haze);
        }

        boolean small() {
            int w = random.nextInt(17);
            return same("fault()", tried.fault(), due.fault) && same("stopped()", tried.stopped(), due.stopped)
                && same("status()", tried.status(), due.status) && same("haze()", tried.haze(), due.haze)
                && same("count(" + w + ")", tried.count(w), due.count(w));
        }

        boolean change() {
            int a = r(0, 11), b = r(0, 10), f = r(0, 63), x = r(-8, 15), y = r(-8, 15), is = r(0, 1);
            int c = c();
            switch (busy && random.nextInt(2) == 0 ? 6 + 9 * random.nextInt(2) : random.nextInt(20)) {
                case 0: case 1: {
                    int what = r(0, 2), v = what == 0 ? r(0, 99) : what == 1 ? r(1, random.nextInt(2) == 0 ? 60 : 999) : r(0, 1);
                    return same("put(" + f + "," + what + "," + v + ")", tried.put(f, what, v), due.put(f, what, v));
                }
                case 2: case 3: {
                    int l = r(0, 2), wx = r(-1, 1), wy = r(-1, 1);
                    if (calm && random.nextInt(3) > 0) {
                        wx = 0;
                        wy = r(0, 1);
                    }
                    return same("wind(" + l + "," + wx + "," + wy + ")", tried.wind(l, wx, wy), due.wind(l, wx, wy));
                }
                case 4: case 5: {
                    int wide = r(1, 3), tall = r(1, 3), l = r(0, 2);
                    if (random.nextInt(4) > 0) {
                        x = calm ? r(1, 5) : r(-2, 8);
                        y = calm ? r(1, 5) : r(-2, 8);
                    }
                    return same("cloud(" + wide + "," + tall + "," + l + "," + x + "," + y + ")",
                        tried.cloud(wide, tall, l, x, y), due.cloud(wide, tall, l, x, y));
                }
                case 6: case 7: case 8: case 9: case 10: {
                    int d = r(0, 3);
                    return same("flag(" + b + "," + c + "," + d + ")", tried.flag(b, c, d), due.flag(b, c, d));
                }
                case 11:
                    return random.nextInt(busy ? 40 : 4) > 0 || same("undo()", tried.undo(), due.undo());
                case 12: case 13: {
                    int till = random.nextInt(4) == 0 ? r(0, 11) : Math.min(11, a + random.nextInt(3)), fee = r(1, 99);
                    f = near(c, a, f);
                    return same("contract(" + f + "," + a + "," + till + "," + is + "," + fee + ")",
                        tried.contract(f, a, till, is, fee), due.contract(f, a, till, is, fee));
                }
                case 14: {
                    int what = r(0, 2), v = what == 0 ? r(0, 99) : what == 1 ? r(0, 10) : r(0, 9);
                    return same("terms(" + what + "," + v + ")", tried.terms(what, v), due.terms(what, v));
                }
                case 15:
                    f = near(c, a, f);
                    return same("sight(" + a + "," + f + "," + is + ")", tried.sight(a, f, is), due.sight(a, f, is));
                case 16: {
                    int law = random.nextInt(5) == 0 ? NONE : r(0, Math.max(0, due.world.laws.size() - 1));
                    return same("force(" + law + ")", tried.force(law), due.force(law));
                }
                case 17: {
                    int k = r(0, 1);
                    return random.nextInt(busy ? 9 : 3) == 0 ? same("back(" + k + ")", tried.back(k), due.back(k))
                        : same("image(" + k + ")", tried.image(k), due.image(k));
                }
                case 18:
                    return random.nextInt(busy ? 40 : 5) > 0 || same("cancel()", tried.cancel(), due.cancel());
                default:
                    return random.nextInt(busy ? 20 : 3) > 0 || same("forget()", tried.forget(), due.forget());
            }
        }

        /** A field that the cloud can come to shade. */
        int near(int c, int hour, int f) {
            if (!due.isCloud(c) || !Reference.in(hour, 0, 11) || random.nextInt(4) == 0) {
                return f;
            }
            int[] at = due.world.where(c, hour);
            if (at == null) {
                return f;
            }
            int x = at[0] + random.nextInt(5) - 1, y = at[1] + random.nextInt(5) - 1;
            return Reference.in(x, 0, 7) && Reference.in(y, 0, 7) ? 8 * y + x : f;
        }

        boolean question() {
            int c = c(), o = random.nextInt(4) == 0 ? c() : Math.max(0, due.world.clouds.size() - 1 - c), h = r(0, 11), f = near(c, h, r(0, 63)), what = r(0, 2), one = r(0, 1);
            int i = random.nextInt(2) == 0 ? NONE : r(0, 11);
            if (random.nextInt(2) == 0) {
                h = random.nextInt(4);
                f = near(c, h, f);
            }
            switch (random.nextInt(30)) {
                case 0: return same("fact(" + f + "," + what + ")", tried.fact(f, what), due.fact(f, what));
                case 1: return same("of(" + c + "," + h + ")", tried.of(c, h), due.of(c, h));
                case 2: case 3: {
                    int w = r(0, 3);
                    return same("asks(" + f + "," + h + "," + w + ")", tried.asks(f, h, w), due.asks(f, h, w));
                }
                case 4: case 5: return same("at(" + c + "," + h + "," + what + ")", tried.at(c, h, what), due.at(c, h, what));
                case 6: return same("dark(" + h + ")", tried.dark(h), due.dark(h));
                case 7: {
                    int hour = r(0, 12);
                    return same("heat(" + f + "," + hour + ")", tried.heat(f, hour), due.heat(f, hour));
                }
                case 8: return same("scorched(" + i + ")", tried.scorched(i), due.scorched(i));
                case 9: {
                    int k = r(0, 7);
                    return same("broken(" + k + ")", tried.broken(k), due.broken(k));
                }
                case 10: return same("judge(" + one + ")", tried.judge(one), due.judge(one));
                case 11: case 12: case 13: {
                    int till = Math.min(11, h + random.nextInt(3));
                    return same("drive(" + c + "," + f + "," + h + "," + till + "," + i + ")",
                        tried.drive(c, f, h, till, i), due.drive(c, f, h, till, i));
                }
                case 14: case 15: {
                    int n = r(0, 11);
                    return same("pasture(" + c + "," + n + "," + i + ")", tried.pasture(c, n, i), due.pasture(c, n, i));
                }
                case 16: case 17: return same("serve(" + c + "," + one + ")", tried.serve(c, one), due.serve(c, one));
                case 18: return same("cross(" + c + "," + o + "," + one + ")", tried.cross(c, o, one), due.cross(c, o, one));
                case 19: return same("part(" + c + "," + o + ")", tried.part(c, o), due.part(c, o));
                case 20: return same("likely(" + c + "," + f + "," + h + ")", tried.likely(c, f, h), due.likely(c, f, h));
                case 21: return same("surest(" + c + "," + f + "," + h + ")", tried.surest(c, f, h), due.surest(c, f, h));
                case 22: {
                    int now = r(0, 10), x = r(-3, 9), y = r(-3, 9);
                    return same("steer(" + c + "," + f + "," + h + "," + now + "," + x + "," + y + ")",
                        tried.steer(c, f, h, now, x, y), due.steer(c, f, h, now, x, y));
                }
                case 23: {
                    int w = r(1, 3), t = r(1, 3), l = r(0, 2);
                    return same("stray(" + w + "," + t + "," + l + "," + i + ")", tried.stray(w, t, l, i), due.stray(w, t, l, i));
                }
                case 24: return same("rustled(" + i + ")", tried.rustled(i), due.rustled(i));
                case 25: return same("men()", tried.men(), due.men());
                case 26: case 27: return same("duel(" + c + "," + f + "," + h + "," + one + ")",
                    tried.duel(c, f, h, one), due.duel(c, f, h, one));
                case 28: {
                    int seed = r(0, 1_000_000), n = random.nextInt(4) == 0 ? r(1, 30) : r(1, 4);
                    return same("summer(" + seed + "," + n + ")", tried.summer(seed, n), due.summer(seed, n));
                }
                default: return same("drawn(" + f + ")", tried.drawn(f), due.drawn(f)) && small();
            }
        }

        boolean goes() {
            while (calls.size() < 480) {
                int kind = random.nextInt(20);
                boolean so = kind == 0 ? text() : kind == 1 ? row() : kind < (busy ? 14 : 9) ? change() : question();
                if (!so) {
                    return false;
                }
            }
            return true;
        }
    }

    public static void main(String[] args) {
        long from = args.length > 0 ? Long.parseLong(args[0]) : 1;
        long till = args.length > 1 ? Long.parseLong(args[1]) : 600;
        int wrong = 0;
        for (long seed = from; seed <= till && wrong < 3; seed++) {
            Run run = new Run(seed);
            boolean so;
            try {
                so = run.goes();
            } catch (RuntimeException e) {
                so = false;
                e.printStackTrace(System.out);
                System.out.println("fuzz: thrown after " + run.calls.get(run.calls.size() - 1));
            }
            if (!so) {
                System.out.println("fuzz: seed " + seed);
                wrong++;
            }
        }
        System.out.println(wrong == 0 ? "all random runs are as the reference" : wrong + " random runs are not as the reference");
        if (wrong != 0) {
            System.exit(1);
        }
    }
}
