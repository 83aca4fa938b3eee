import java.util.ArrayList;
import java.util.Arrays;
import java.util.List;
import java.util.Random;
import java.util.regex.Matcher;
import java.util.regex.Pattern;

/** Long runs of calls by fixed seeds, each answer held against a second, slow and plain telling of the document. */
public final class AgainstModel {
    private static final int BAD = -1, STATE = -2, FULL = -3, NONE = -4;
    private static final String[] CALLS = {
        "feed", "end", "text", "fault", "rule", "house", "order", "set", "pack", "swap", "top", "first", "ask", "turn",
        "weigh", "way", "time", "back", "spoilt", "late", "pennies", "spent", "best", "packing", "soonest", "two",
        "split", "strength", "latest", "leave", "mean", "luck", "see", "forget", "fits", "drift", "keep", "undo",
        "sheet", "lay", "read", "torn", "count"};

    private static int wrong = 0;

    public static void main(String[] args) {
        for (int seed = 0; seed < 1500 && wrong < 20; seed++) {
            new Run(seed).go();
            new Run(-1 - seed).goTexts();
        }
        if (wrong > 0) {
            System.exit(1);
        }
    }

    // ---------------------------------------------------------------- the second telling

    private static final class Order {
        int[] figures = new int[5];

        Order copy() {
            Order c = new Order();
            c.figures = figures.clone();
            return c;
        }

        int kind() { return figures[0]; }
        int house() { return figures[1]; }
        int weight() { return figures[2]; }
        int penny() { return figures[3]; }
        int due() { return figures[4]; }
    }

    private static final class World {
        List<int[]> houses = new ArrayList<>();
        List<Order> orders = new ArrayList<>();
        List<Integer> packed = new ArrayList<>();
        List<Integer> round = new ArrayList<>();
        int push = 10;
        int start = 0;

        World copy() {
            World w = new World();
            w.houses.addAll(houses);
            for (Order o : orders) {
                w.orders.add(o.copy());
            }
            w.packed.addAll(packed);
            w.round.addAll(round);
            w.push = push;
            w.start = start;
            return w;
        }
    }

    private static final class Told {
        int[] time = new int[5];
        int back, dig, go, door, spoilt, late, pennies;
    }

    private static final class Faulty extends RuntimeException {
        private static final long serialVersionUID = 1;
        final int kind, place;

        Faulty(int kind, int place) {
            this.kind = kind;
            this.place = place;
        }
    }

    private static final class Model {
        StringBuilder tape = new StringBuilder();
        World w = new World();
        int fault, torn;
        List<int[]> seen = new ArrayList<>();
        World[] image = new World[2];
        Object[] sheets = new Object[4];

        // ---- text
        private Matcher at;
        private String token;
        private int place;
        private static final Pattern TOKEN = Pattern.compile("\\G *([a-z]+|[0-9]+|;)");
        private static final Pattern REST = Pattern.compile("\\G *");

        void advance() {
            int from = place + (token == null ? 0 : token.length());
            if (at.usePattern(TOKEN).find(from)) {
                token = at.group(1);
                place = at.start(1);
                if (Character.isDigit(token.charAt(0)) && token.length() > 2) {
                    throw new Faulty(1, place);
                }
                return;
            }
            at.usePattern(REST).find(from);
            place = at.end();
            token = "";
            if (place < tape.length()) {
                throw new Faulty(1, place);
            }
        }

        int number(int lo, int hi) {
            if (token.isEmpty() || !Character.isDigit(token.charAt(0))) {
                throw new Faulty(2, place);
            }
            int v = Integer.parseInt(token);
            if (v < lo || v > hi) {
                throw new Faulty(3, place);
            }
            return v;
        }

        int take(int lo, int hi) {
            int v = number(lo, hi);
            advance();
            return v;
        }

        List<Integer> row() {
            List<Integer> told = new ArrayList<>();
            while (!token.isEmpty() && Character.isDigit(token.charAt(0))) {
                int v = number(0, 4);
                if (told.contains(v)) {
                    throw new Faulty(4, place);
                }
                told.add(v);
                advance();
            }
            return told;
        }

        int text() {
            World n = new World();
            List<String> once = new ArrayList<>();
            int lines = 0;
            try {
                at = TOKEN.matcher(tape);
                token = null;
                place = 0;
                advance();
                while (!token.isEmpty()) {
                    line(n, once);
                    if (!token.equals(";")) {
                        throw new Faulty(2, place);
                    }
                    lines++;
                    advance();
                }
                boolean ok = true;
                for (Order o : n.orders) {
                    ok &= o.house() <= n.houses.size();
                }
                for (int v : n.packed) {
                    ok &= v < n.orders.size();
                }
                for (int v : n.round) {
                    ok &= v < n.orders.size();
                }
                if (!ok) {
                    throw new Faulty(6, tape.length());
                }
            } catch (Faulty f) {
                fault = f.kind;
                tape.setLength(0);
                return -10 - f.place;
            }
            for (int o = 0; o < n.orders.size(); o++) {
                if (!n.packed.contains(o)) {
                    n.packed.add(o);
                }
                if (!n.round.contains(o)) {
                    n.round.add(o);
                }
            }
            w = n;
            fault = 0;
            seen.clear();
            image = new World[2];
            tape.setLength(0);
            return lines;
        }

        void line(World n, List<String> once) {
            String name = token;
            int here = place;
            int slope = Arrays.asList("road", "up", "down").indexOf(name);
            if (slope >= 0) {
                if (n.houses.size() == 6) {
                    throw new Faulty(5, here);
                }
                advance();
                n.houses.add(new int[] {take(1, 9), slope});
            } else if (name.equals("order")) {
                if (n.orders.size() == 5) {
                    throw new Faulty(5, here);
                }
                advance();
                Order o = new Order();
                o.figures[0] = Arrays.asList("plain", "eggs", "ice", "soda", "paraffin").indexOf(token);
                if (o.figures[0] < 0) {
                    throw new Faulty(2, place);
                }
                advance();
                o.figures[1] = take(1, 6);
                o.figures[2] = take(1, 9);
                o.figures[3] = take(0, 9);
                o.figures[4] = take(0, 99);
                n.orders.add(o);
            } else if (Arrays.asList("push", "start", "pack", "round").contains(name)) {
                if (once.contains(name)) {
                    throw new Faulty(4, here);
                }
                once.add(name);
                advance();
                switch (name) {
                    case "push": n.push = take(0, 60); break;
                    case "start": n.start = take(0, 60); break;
                    case "pack": n.packed.addAll(row()); break;
                    default: n.round.addAll(row()); break;
                }
            } else {
                throw new Faulty(2, here);
            }
        }

        // ---- rounds
        int stretches(int a, int b, int weight, int push) {
            int sum = 0;
            int here = a;
            while (here != b) {
                int to = here < b ? here + 1 : here - 1;
                int[] s = w.houses.get(Math.max(here, to) - 1);
                boolean up = to > here ? s[1] == 1 : s[1] == 2;
                sum += s[0];
                if (up && weight > push) {
                    sum += s[0];
                }
                here = to;
            }
            return sum;
        }

        Told go(List<Integer> round, List<Integer> packed, int push, int start) {
            Told t = new Told();
            List<Integer> basket = new ArrayList<>(packed);
            int minute = start;
            int here = 0;
            for (int o : round) {
                Order order = w.orders.get(o);
                int weight = 0;
                for (int b : basket) {
                    weight += w.orders.get(b).weight();
                }
                int way = stretches(here, order.house(), weight, push);
                int dig = basket.indexOf(o);
                int door = order.kind() == 3 ? 2 : 1;
                minute += way + dig + door;
                t.go += way;
                t.dig += dig;
                t.door += door;
                t.time[o] = minute;
                basket.remove(Integer.valueOf(o));
                here = order.house();
                int lies = packed.indexOf(o);
                int over = 0;
                for (int b : packed.subList(0, lies)) {
                    over += w.orders.get(b).weight();
                }
                boolean bad = order.kind() == 1 && over > 5 || order.kind() == 2 && minute - start > 20
                    || lies > 0 && w.orders.get(packed.get(lies - 1)).kind() == 4;
                if (bad) {
                    t.spoilt |= 1 << o;
                }
                if (minute > order.due()) {
                    t.late |= 1 << o;
                } else if (!bad) {
                    t.pennies += order.penny();
                }
            }
            int way = stretches(here, 0, 0, push);
            t.go += way;
            t.back = minute + way;
            return t;
        }

        Told now() {
            return go(w.round, w.packed, w.push, w.start);
        }

        static List<Integer> only(List<Integer> row, int bits) {
            List<Integer> some = new ArrayList<>();
            for (int o : row) {
                if ((bits >> o & 1) == 1) {
                    some.add(o);
                }
            }
            return some;
        }

        int full() {
            return (1 << w.orders.size()) - 1;
        }

        int[] twice(int bits) {
            Told a = go(only(w.round, bits), only(w.packed, bits), w.push, w.start);
            int rest = full() & ~bits;
            Told b = go(only(w.round, rest), only(w.packed, rest), w.push, a.back);
            return new int[] {a.pennies + b.pennies, b.back};
        }

        static int number(List<Integer> row) {
            int v = 0;
            for (int o : row) {
                v = v * 5 + o;
            }
            return v;
        }

        List<List<Integer>> all() {
            List<List<Integer>> rows = new ArrayList<>();
            arrange(new ArrayList<>(), rows);
            return rows;
        }

        private void arrange(List<Integer> head, List<List<Integer>> rows) {
            if (head.size() == w.orders.size()) {
                rows.add(new ArrayList<>(head));
                return;
            }
            for (int o = 0; o < w.orders.size(); o++) {
                if (!head.contains(o)) {
                    head.add(o);
                    arrange(head, rows);
                    head.remove(head.size() - 1);
                }
            }
        }

        boolean is(int o) {
            return o >= 0 && o < w.orders.size();
        }

        static boolean in(int v, int lo, int hi) {
            return v >= lo && v <= hi;
        }

        private int bestOf(List<List<Integer>> rounds, List<List<Integer>> packings, int[] out) {
            Told best = null;
            for (List<Integer> r : rounds) {
                for (List<Integer> p : packings) {
                    Told t = go(r, p, w.push, w.start);
                    if (best == null || t.pennies > best.pennies || t.pennies == best.pennies && t.back < best.back) {
                        best = t;
                        out[0] = t.pennies;
                        out[1] = t.back;
                        out[2] = number(r);
                        out[3] = number(p);
                    }
                }
            }
            return 0;
        }

        long part(long a, long b, int what) {
            long g = b;
            for (long d = b; d >= 1; d--) {
                if (a % d == 0 && b % d == 0) {
                    g = d;
                    break;
                }
            }
            return what == 0 ? a / g : b / g;
        }

        long ask(String call, int[] a) {
            switch (call) {
                case "feed":
                    if (!in(a[0], 0, 127)) {
                        return BAD;
                    }
                    if (tape.length() == 160) {
                        return FULL;
                    }
                    return tape.append((char) a[0]).length();
                case "end": {
                    int had = tape.length();
                    if (!in(a[0], 0, had)) {
                        return BAD;
                    }
                    tape.setLength(a[0]);
                    return had;
                }
                case "text": return text();
                case "fault": return fault;
                case "rule": return rule(a[0]);
                case "house": return in(a[0], 1, w.houses.size()) && in(a[1], 0, 1) ? w.houses.get(a[0] - 1)[a[1]] : BAD;
                case "order":
                    if (!is(a[0]) || !in(a[1], 0, 6)) {
                        return BAD;
                    }
                    return a[1] < 5 ? w.orders.get(a[0]).figures[a[1]] : (a[1] == 5 ? w.packed : w.round).indexOf(a[0]);
                case "set": {
                    if (!in(a[0], 0, 1) || !in(a[1], 0, 60)) {
                        return BAD;
                    }
                    int was = a[0] == 0 ? w.push : w.start;
                    if (a[0] == 0) {
                        w.push = a[1];
                    } else {
                        w.start = a[1];
                    }
                    return was;
                }
                case "pack": return exchange(w.packed, a[0], a[1]);
                case "swap": return exchange(w.round, a[0], a[1]);
                case "top": return ahead(w.packed, a[0]);
                case "first": return ahead(w.round, a[0]);
                case "ask": return a[1] == 3 && in(a[2], 0, 9) || a[1] == 4 && in(a[2], 0, 99) ? put(a[0], a[1], a[2]) : BAD;
                case "turn": return in(a[1], 0, 4) ? put(a[0], 0, a[1]) : BAD;
                case "weigh": return in(a[1], 1, 9) ? put(a[0], 2, a[1]) : BAD;
                case "way": {
                    int h = w.houses.size();
                    boolean ok = in(a[0], 0, h) && in(a[1], 0, h) && in(a[2], 0, 60);
                    return ok ? stretches(a[0], a[1], a[2], w.push) : BAD;
                }
                case "time": return is(a[0]) ? now().time[a[0]] : BAD;
                case "back": return now().back;
                case "spoilt": return now().spoilt;
                case "late": return now().late;
                case "pennies": return now().pennies;
                case "spent": return in(a[0], 0, 2) ? new int[] {now().dig, now().go, now().door}[a[0]] : BAD;
                default: return askMore(call, a);
            }
        }

        int rule(int what) {
            int weights = 0;
            for (Order o : w.orders) {
                weights += o.weight();
            }
            int[] all = {w.houses.size(), w.orders.size(), w.push, w.start, number(w.packed), number(w.round), weights};
            return in(what, 0, 6) ? all[what] : BAD;
        }

        int exchange(List<Integer> row, int o, int p) {
            if (!is(o) || !is(p)) {
                return BAD;
            }
            int i = row.indexOf(o);
            int j = row.indexOf(p);
            row.set(i, p);
            row.set(j, o);
            return number(row);
        }

        int ahead(List<Integer> row, int o) {
            if (!is(o)) {
                return BAD;
            }
            row.remove(Integer.valueOf(o));
            row.add(0, o);
            return number(row);
        }

        int put(int o, int what, int v) {
            if (!is(o)) {
                return BAD;
            }
            int was = w.orders.get(o).figures[what];
            w.orders.get(o).figures[what] = v;
            return was;
        }

        long askMore(String call, int[] a) {
            int[] out = new int[4];
            switch (call) {
                case "best":
                    if (!in(a[0], 0, 3)) {
                        return BAD;
                    }
                    bestOf(all(), all(), out);
                    return out[a[0]];
                case "packing":
                    if (!in(a[0], 0, 2)) {
                        return BAD;
                    }
                    bestOf(List.of(w.round), all(), out);
                    return out[a[0] == 2 ? 3 : a[0]];
                case "soonest": return in(a[0], 0, 1) ? soonest(a[0]) : BAD;
                case "two": return in(a[0], 0, full()) && in(a[1], 0, 1) ? twice(a[0])[a[1]] : BAD;
                case "split": return in(a[0], 0, 2) ? split(a[0]) : BAD;
                case "strength":
                    for (int v = 0; v <= 60; v++) {
                        if (go(w.round, w.packed, v, w.start).late == 0) {
                            return v;
                        }
                    }
                    return NONE;
                case "latest": {
                    int last = NONE;
                    for (int v = 0; v <= 60; v++) {
                        last = go(w.round, w.packed, w.push, v).late == 0 ? v : last;
                    }
                    return last;
                }
                case "leave": return in(a[0], 0, 1) ? leave(a[0]) : BAD;
                case "mean":
                    return in(a[0], 0, 10) && in(a[1], 0, 1) ? part((long) now().pennies * (10 - a[0]), 10, a[1]) : BAD;
                case "luck": {
                    if (!in(a[0], 0, 10) || !in(a[1], 0, 45) || !in(a[2], 0, 1)) {
                        return BAD;
                    }
                    long[] odds = odds(a[0]);
                    long sum = 0;
                    for (int k = a[1]; k < odds.length; k++) {
                        sum += odds[k];
                    }
                    return part(sum, 100000, a[2]);
                }
                case "see":
                    if (!is(a[0]) || !in(a[1], 0, 199)) {
                        return BAD;
                    }
                    if (seen.size() == 6) {
                        return FULL;
                    }
                    seen.add(new int[] {a[0], a[1]});
                    return seen.size();
                case "forget": {
                    int were = seen.size();
                    if (!in(a[0], 0, were)) {
                        return BAD;
                    }
                    seen = new ArrayList<>(seen.subList(0, a[0]));
                    return were;
                }
                case "fits": return in(a[0], 0, 2) ? fits(a[0]) : BAD;
                case "drift": return drift(a[0], a[1], a[2]);
                default: return askLast(call, a);
            }
        }

        int soonest(int what) {
            int least = Integer.MAX_VALUE;
            int which = 0;
            for (List<Integer> r : all()) {
                int b = go(r, w.packed, w.push, w.start).back;
                if (b < least) {
                    least = b;
                    which = number(r);
                }
            }
            return what == 0 ? least : which;
        }

        int split(int what) {
            int[] best = {-1, -1, 0};
            for (int s = 0; s <= full(); s++) {
                int[] t = twice(s);
                if (t[0] > best[1] || t[0] == best[1] && t[1] < best[2]) {
                    best = new int[] {s, t[0], t[1]};
                }
            }
            return best[what];
        }

        int leave(int what) {
            Told with = now();
            int which = NONE;
            int most = NONE;
            for (int o = w.orders.size() - 1; o >= 0; o--) {
                int rest = full() & ~(1 << o);
                int p = go(only(w.round, rest), only(w.packed, rest), w.push, w.start).pennies;
                boolean had = ((with.spoilt | with.late) >> o & 1) == 0;
                int others = with.pennies - (had ? w.orders.get(o).penny() : 0);
                if (p > others && p >= most) {
                    which = o;
                    most = p;
                }
            }
            return what == 0 ? which : most;
        }

        /** By pennies, in hundred thousandths: one door after another. */
        long[] odds(int v) {
            Told t = now();
            long[] odds = new long[46];
            odds[0] = 100000;
            for (int o = 0; o < w.orders.size(); o++) {
                if (((t.spoilt | t.late) >> o & 1) == 0) {
                    long[] then = new long[46];
                    for (int k = 0; k < 46; k++) {
                        if (odds[k] > 0) {
                            then[k] += odds[k] * v / 10;
                            then[k + w.orders.get(o).penny()] += odds[k] * (10 - v) / 10;
                        }
                    }
                    odds = then;
                }
            }
            return odds;
        }

        int fits(int what) {
            int many = 0;
            int which = NONE;
            int firsts = 0;
            for (List<Integer> r : all()) {
                Told t = go(r, w.packed, w.push, w.start);
                boolean fit = true;
                for (int[] s : seen) {
                    fit &= t.time[s[0]] == s[1];
                }
                if (fit) {
                    many++;
                    which = which == NONE ? number(r) : which;
                    firsts |= r.isEmpty() ? 0 : 1 << r.get(0);
                }
            }
            return new int[] {many, which, firsts}[what];
        }

        int drift(int seed, int n, int what) {
            if (!in(n, 1, 60) || !in(what, 0, 1)) {
                return BAD;
            }
            if (w.orders.isEmpty()) {
                return STATE;
            }
            List<Integer> r = new ArrayList<>(w.round);
            long s = seed & 0xFFFFFFFFL;
            int most = -1;
            int least = Integer.MAX_VALUE;
            for (int i = 0; i < n; i++) {
                s = (s * 1103515245L + 12345L) & 0xFFFFFFFFL;
                int o = (int) (s / 65536 % 32768 % w.orders.size());
                r.remove(Integer.valueOf(o));
                r.add(0, o);
                Told t = go(r, w.packed, w.push, w.start);
                most = Math.max(most, t.pennies);
                least = Math.min(least, t.back);
            }
            return what == 0 ? most : least;
        }

        long askLast(String call, int[] a) {
            switch (call) {
                case "keep": {
                    if (!in(a[0], 0, 1)) {
                        return BAD;
                    }
                    int was = image[a[0]] == null ? 0 : 1;
                    image[a[0]] = w.copy();
                    return was;
                }
                case "undo":
                    if (!in(a[0], 0, 1)) {
                        return BAD;
                    }
                    if (image[a[0]] == null) {
                        return STATE;
                    }
                    w = image[a[0]].copy();
                    return w.start;
                case "sheet":
                    if (!in(a[0], 0, 3) || !in(a[1], 0, 2) || a[2] > 40) {
                        return BAD;
                    }
                    if (a[2] < 0) {
                        return -14;
                    }
                    sheets[a[0]] = a[1] == 0 ? new byte[a[2]] : a[1] == 1 ? new short[a[2]] : new int[a[2]];
                    return 1;
                case "lay": return lay(a[0], a[1], a[2]);
                case "read": return read(a[0], a[1], a[2], a[3]);
                case "torn": return torn;
                case "count": return count(a[0]);
                default: throw new IllegalStateException(call);
            }
        }

        int lay(int k, int i, int v) {
            if (!in(k, 0, 3)) {
                return BAD;
            }
            try {
                if (sheets[k] instanceof byte[] b) {
                    b[i] = (byte) v;
                } else if (sheets[k] instanceof short[] s) {
                    s[i] = (short) v;
                } else {
                    ((int[]) sheets[k])[i] = v;
                }
                return 1;
            } catch (NullPointerException e) {
                return -11;
            } catch (IndexOutOfBoundsException e) {
                return -12;
            }
        }

        int cell(int k, int lane, int i) {
            return lane == 0 ? ((byte[]) sheets[k])[i] : lane == 1 ? ((short[]) sheets[k])[i] : ((int[]) sheets[k])[i];
        }

        int read(int k, int lane, int f, int n) {
            if (!in(k, 0, 3) || !in(lane, 0, 2) || !in(n, 0, 20)) {
                return BAD;
            }
            List<int[]> pairs = new ArrayList<>();
            int found = 0;
            try {
                for (int i = 0; i < n; i++) {
                    int[] pair = {cell(k, lane, f + 2 * i), cell(k, lane, f + 2 * i + 1)};
                    if (!is(pair[0]) || !is(pair[1])) {
                        return -20 - i;
                    }
                    pairs.add(pair);
                }
            } catch (NullPointerException e) {
                found = 1;
            } catch (IndexOutOfBoundsException e) {
                found = 2;
            } catch (ClassCastException e) {
                found = 3;
            }
            for (int[] pair : pairs) {
                exchange(w.round, pair[0], pair[1]);
            }
            torn = found;
            return pairs.size();
        }

        int count(int what) {
            int could = 0;
            for (Order o : w.orders) {
                could += o.penny();
            }
            int road = 0;
            for (int[] h : w.houses) {
                road += h[0];
            }
            int cells = sheets[0] == null ? NONE : java.lang.reflect.Array.getLength(sheets[0]);
            int images = (image[0] == null ? 0 : 1) + (image[1] == null ? 0 : 1);
            int[] all = {seen.size(), images, tape.length(), cells, could, road};
            return in(what, 0, 5) ? all[what] : BAD;
        }
    }

    // ---------------------------------------------------------------- the runs

    private static final class Run {
        final int seed;
        final Random random;
        final BasketRound x = new BasketRound();
        final Model m = new Model();
        int calls = 0;

        Run(int seed) {
            this.seed = seed;
            this.random = new Random(seed);
        }

        void go() {
            feedText(fullText());
            for (int k = upTo(4) - 1; k >= 0; k--) {
                one("sheet", k, upTo(2), upTo(16));
            }
            for (int i = 0; calls < 512; i++) {
                if (random.nextInt(120) == 0 || m.w.orders.isEmpty() && random.nextInt(12) == 0) {
                    feedText(random.nextInt(3) == 0 ? someText() : fullText());
                }
                String call = CALLS[random.nextInt(CALLS.length)];
                // A text of what lies on the tape by chance mostly tells of no orders, and then little is left to ask.
                if (call.equals("text") && random.nextInt(20) != 0) {
                    continue;
                }
                // A sheet and what is seen fill only if they are met several times.
                int times = call.equals("lay") ? 12 : call.equals("see") ? 3 : 1;
                for (int t = upTo(times - 1); t >= 0; t--) {
                    one(call, numbers(call));
                }
                if (call.equals("read")) {
                    one("torn");
                    one("rule", 5);
                }
            }
        }

        /** Texts alone, most of them with faults. */
        void goTexts() {
            for (int i = 0; calls + 170 < 512; i++) {
                feedText(faultyText());
                one("count", 2);
                for (int what = 0; what <= 6; what++) {
                    one("rule", what);
                }
            }
        }

        void feedText(String text) {
            one("end", 0);
            for (char c : text.toCharArray()) {
                one("feed", c);
            }
            one("text");
            one("fault");
        }

        int upTo(int n) {
            return random.nextInt(n + 1);
        }

        /** A text without a fault, mostly of many orders. */
        String fullText() {
            String text = "";
            for (int i = 0; i < 100 && (text.isEmpty() || text.length() > 160); i++) {
                int houses = 1 + upTo(5);
                int orders = Math.max(upTo(5), upTo(5));
                StringBuilder s = new StringBuilder();
                addHouses(s, houses);
                addOrders(s, orders, houses);
                addRow(s, "pack", orders);
                addRow(s, "round", orders);
                s.append(random.nextInt(3) == 0 ? "" : "push " + upTo(30) + ";");
                s.append(random.nextInt(3) != 0 ? "" : "start " + upTo(random.nextBoolean() ? 9 : 60) + ";");
                text = s.toString();
            }
            return text;
        }

        void addHouses(StringBuilder s, int houses) {
            for (int h = 0; h < houses; h++) {
                s.append(new String[] {"road ", "up ", "down "}[upTo(2)]).append(1 + upTo(random.nextInt(9))).append(';');
            }
        }

        void addOrders(StringBuilder s, int orders, int houses) {
            for (int o = 0; o < orders; o++) {
                s.append("order ").append(new String[] {"plain", "eggs", "ice", "soda", "paraffin"}[upTo(4)]).append(' ');
                s.append(1 + upTo(houses - 1)).append(' ').append(1 + upTo(8)).append(' ').append(upTo(9)).append(' ');
                s.append(random.nextInt(3) == 0 ? upTo(99) : upTo(60)).append(';');
            }
        }

        void addRow(StringBuilder s, String name, int orders) {
            if (random.nextInt(3) == 0) {
                return;
            }
            List<Integer> row = new ArrayList<>();
            for (int o = 0; o < orders; o++) {
                row.add(upTo(row.size()), o);
            }
            s.append(name);
            for (int o : row.subList(0, upTo(orders))) {
                s.append(' ').append(o);
            }
            s.append(';');
        }

        /** A text that may well have a fault. */
        String someText() {
            StringBuilder s = new StringBuilder();
            int houses = upTo(6) + upTo(1);
            int orders = upTo(5) + upTo(1);
            addHouses(s, houses);
            addOrders(s, orders, Math.max(houses, 1));
            String[] more = {"push ", "start ", "pack ", "round "};
            for (int i = 0; i < 4; i++) {
                if (random.nextInt(3) == 0) {
                    s.append(more[random.nextInt(8) == 0 ? upTo(3) : i]);
                    s.append(i < 2 ? "" + upTo(30) : upTo(4) + " " + upTo(4)).append(';');
                }
            }
            if (random.nextInt(3) == 0 && s.length() > 0) {
                spoil(s);
            }
            return s.length() > 160 ? s.substring(0, 160) : s.toString();
        }

        String faultyText() {
            StringBuilder s = new StringBuilder(random.nextBoolean() ? fullText() : someText());
            for (int i = upTo(3); i > 0 && s.length() > 0; i--) {
                spoil(s);
            }
            // Short ones, so that a run has many of them.
            int from = random.nextBoolean() ? 0 : s.indexOf(";", random.nextInt(s.length() + 1)) + 1;
            String text = s.substring(from);
            return text.length() > 160 ? text.substring(0, 160) : text;
        }

        void spoil(StringBuilder s) {
            int at = random.nextInt(s.length());
            String signs = " ;;09 1a$A5upzroad\n";
            switch (upTo(3)) {
                case 0: s.setCharAt(at, signs.charAt(random.nextInt(signs.length()))); break;
                case 1: s.deleteCharAt(at); break;
                case 2: s.insert(at, signs.charAt(random.nextInt(signs.length()))); break;
                default: s.setLength(at); break;
            }
        }

        int some(int most) {
            switch (random.nextInt(24)) {
                case 0: return -1;
                case 1: return most + 1;
                case 2: return new int[] {Integer.MIN_VALUE, Integer.MAX_VALUE, -7, 1000}[upTo(3)];
                default: return upTo(most);
            }
        }

        /** An order that there is, or one close by. */
        int someOrder() {
            return some(random.nextInt(6) == 0 ? 4 : Math.max(m.w.orders.size() - 1, 0));
        }

        int[] numbers(String call) {
            switch (call) {
                case "feed": return new int[] {some(127)};
                case "end": return new int[] {some(m.tape.length())};
                case "rule": return new int[] {some(6)};
                case "house": return new int[] {some(6), some(1)};
                case "order": return new int[] {someOrder(), some(6)};
                case "set": return new int[] {some(1), some(60)};
                case "pack": case "swap": return new int[] {someOrder(), someOrder()};
                case "top": case "first": case "time": return new int[] {someOrder()};
                case "ask": return new int[] {someOrder(), 3 + some(1), random.nextBoolean() ? some(9) : some(99)};
                case "turn": return new int[] {someOrder(), some(4)};
                case "weigh": return new int[] {someOrder(), some(9)};
                case "way": return new int[] {some(6), some(6), some(60)};
                case "best": return new int[] {some(3)};
                case "spent": case "packing": case "split": case "fits": return new int[] {some(2)};
                case "soonest": case "leave": case "keep": case "undo": return new int[] {some(1)};
                case "two": return new int[] {some(m.full()), some(1)};
                case "mean": return new int[] {some(10), some(1)};
                case "luck": return new int[] {some(10), random.nextBoolean() ? some(20) : some(45), some(1)};
                case "see": {
                    int o = someOrder();
                    return new int[] {o, m.is(o) && random.nextInt(9) != 0 ? m.now().time[o] : some(199)};
                }
                case "forget": return new int[] {some(Math.max(m.seen.size(), 2))};
                case "drift": return new int[] {random.nextInt(), some(60), some(1)};
                case "sheet": return new int[] {some(3), some(2), random.nextBoolean() ? some(8) : some(40)};
                case "lay": return new int[] {some(3), some(12), random.nextInt(9) == 0 ? random.nextInt() : someOrder()};
                case "read": {
                    int k = some(3);
                    Object row = k >= 0 && k < 4 ? m.sheets[k] : null;
                    int lane = row instanceof byte[] ? 0 : row instanceof short[] ? 1 : 2;
                    lane = random.nextInt(5) == 0 ? some(2) : lane;
                    return new int[] {k, lane, some(12), random.nextBoolean() ? some(4) : some(20)};
                }
                case "count": return new int[] {some(5)};
                default: return new int[0];
            }
        }

        void one(String call, int... a) {
            calls++;
            long want = m.ask(call, a);
            long got = answer(x, call, a);
            if (got != want) {
                wrong++;
                System.out.println("seed " + seed + ", call " + calls + ": " + call + Arrays.toString(a) + " answered " + got
                    + ", due is " + want);
            }
        }
    }

    private static long answer(BasketRound x, String call, int[] a) {
        switch (call) {
            case "feed": return x.feed(a[0]);
            case "end": return x.end(a[0]);
            case "text": return x.text();
            case "fault": return x.fault();
            case "rule": return x.rule(a[0]);
            case "house": return x.house(a[0], a[1]);
            case "order": return x.order(a[0], a[1]);
            case "set": return x.set(a[0], a[1]);
            case "pack": return x.pack(a[0], a[1]);
            case "swap": return x.swap(a[0], a[1]);
            case "top": return x.top(a[0]);
            case "first": return x.first(a[0]);
            case "ask": return x.ask(a[0], a[1], a[2]);
            case "turn": return x.turn(a[0], a[1]);
            case "weigh": return x.weigh(a[0], a[1]);
            case "way": return x.way(a[0], a[1], a[2]);
            case "time": return x.time(a[0]);
            case "back": return x.back();
            case "spoilt": return x.spoilt();
            case "late": return x.late();
            case "pennies": return x.pennies();
            case "spent": return x.spent(a[0]);
            case "best": return x.best(a[0]);
            case "packing": return x.packing(a[0]);
            case "soonest": return x.soonest(a[0]);
            case "two": return x.two(a[0], a[1]);
            case "split": return x.split(a[0]);
            case "strength": return x.strength();
            case "latest": return x.latest();
            case "leave": return x.leave(a[0]);
            case "mean": return x.mean(a[0], a[1]);
            case "luck": return x.luck(a[0], a[1], a[2]);
            case "see": return x.see(a[0], a[1]);
            case "forget": return x.forget(a[0]);
            case "fits": return x.fits(a[0]);
            case "drift": return x.drift(a[0], a[1], a[2]);
            case "keep": return x.keep(a[0]);
            case "undo": return x.undo(a[0]);
            case "sheet": return x.sheet(a[0], a[1], a[2]);
            case "lay": return x.lay(a[0], a[1], a[2]);
            case "read": return x.read(a[0], a[1], a[2], a[3]);
            case "torn": return x.torn();
            case "count": return x.count(a[0]);
            default: throw new IllegalStateException(call);
        }
    }
}
