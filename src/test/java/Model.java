import java.math.BigInteger;
import java.util.ArrayDeque;
import java.util.ArrayList;
import java.util.Arrays;
import java.util.Deque;
import java.util.HashMap;
import java.util.List;
import java.util.Map;
import java.util.TreeMap;
import java.util.function.Consumer;

/** The document written a second time, as plainly as can be, with the Java library and no thought of speed. */
final class Model {
    static final int NONE = -1000000, BAD = -1000001, STATE = -1000002, FULL = -1000003;

    /** One TELLER. */
    static final class One implements Cloneable {
        char sort;
        int days, care, left, served;
        boolean open = true;

        One same() {
            try {
                return (One) clone();
            } catch (CloneNotSupportedException e) {
                throw new IllegalStateException(e);
            }
        }

        int cost(int sum) {
            int careful = Math.max(1, sum - care);
            return switch (sort) {
                case 'c' -> careful;
                case 'k' -> careful / 2 + 1;
                case 'o' -> careful + 2;
                case 'y' -> sum;
                default -> Math.min(9, sum);
            };
        }

        int kind() {
            return " ckoyn".indexOf(sort);
        }
    }

    record Slip(boolean draws, int sum) {
    }

    static final class House {
        int infancy, week, turn, paid, unpaid;
        List<One> ones = new ArrayList<>();
        Map<Integer, Slip> slips = new TreeMap<>();
        List<Integer> line = new ArrayList<>();

        House same() {
            House h = new House();
            h.infancy = infancy;
            h.week = week;
            h.turn = turn;
            h.paid = paid;
            h.unpaid = unpaid;
            ones.forEach(o -> h.ones.add(o.same()));
            h.slips.putAll(slips);
            h.line.addAll(line);
            return h;
        }

        Integer turn() {
            Integer by = null;
            if (!line.isEmpty()) {
                Slip slip = slips.get(line.remove(0));
                for (int t = 0; t < ones.size(); t++) {
                    One o = ones.get(t);
                    if (!o.open || slip.draws() && o.left - o.cost(slip.sum()) < infancy) {
                        continue;
                    }
                    int mine = slip.draws() ? o.left : -o.left;
                    int best = by == null ? Integer.MIN_VALUE : slip.draws() ? ones.get(by).left : -ones.get(by).left;
                    if (mine > best) {
                        by = t;
                    }
                }
                if (by == null) {
                    unpaid++;
                } else {
                    give(by, slip);
                }
            }
            turn++;
            if (turn % week == 0) {
                ones.stream().filter(o -> o.sort == 'n' && o.left < o.days).forEach(o -> o.left++);
            }
            return by;
        }

        void give(int by, Slip slip) {
            One o = ones.get(by);
            o.left = slip.draws() ? o.left - o.cost(slip.sum()) : Math.min(99, o.left + slip.sum());
            o.served++;
            paid++;
        }

        int come(boolean draws, int sum) {
            int number = 0;
            while (line.contains(number)) {
                number++;
            }
            slips.put(number, new Slip(draws, sum));
            line.add(number);
            return number;
        }

        int all() {
            return ones.stream().mapToInt(o -> o.left).sum();
        }

        boolean allPaid() {
            House h = same();
            int n = h.line.size();
            while (!h.line.isEmpty()) {
                h.turn();
            }
            return h.paid - paid == n;
        }
    }

    private final Map<Integer, int[]> rows = new HashMap<>();
    private final Map<Integer, Integer> lanes = new HashMap<>();
    private final StringBuilder tape = new StringBuilder();
    private final Deque<House> past = new ArrayDeque<>();
    private final House[] images = new House[2];
    private final List<Integer> trail = new ArrayList<>();
    private House house;
    private int fault, status;

    private int found(int number) {
        status = number;
        return -1000010 - number;
    }

    private int fine(int answer) {
        status = 0;
        return answer;
    }

    private boolean noRow(int row) {
        return row < 0 || row > 7;
    }

    private boolean noOne(int t) {
        return house == null || t < 0 || t >= house.ones.size();
    }

    int row(int row, int lane, int n) {
        if (noRow(row) || lane < 0 || lane > 2 || n > 40) return BAD;
        if (n < 0) return found(4);
        rows.put(row, new int[n]);
        lanes.put(row, lane);
        return fine(n);
    }

    int set(int row, int i, int v) {
        if (noRow(row)) return BAD;
        if (!rows.containsKey(row)) return found(1);
        int[] items = rows.get(row);
        if (i < 0 || i >= items.length) return found(2);
        int bits = 8 << lanes.get(row);
        items[i] = v << 32 - bits >> 32 - bits;
        return fine(items[i]);
    }

    int copy(int a, int i, int b, int j, int n) {
        if (noRow(a) || noRow(b)) return BAD;
        if (!rows.containsKey(a) || !rows.containsKey(b)) return found(1);
        if (!lanes.get(a).equals(lanes.get(b))) return found(5);
        int[] from = rows.get(a).clone(), to = rows.get(b);
        if (i < 0 || j < 0 || n < 0 || (long) i + n > from.length || (long) j + n > to.length) return found(2);
        for (int k = 0; k < n; k++) to[j + k] = from[i + k];
        return fine(n);
    }

    int drop(int row) {
        if (noRow(row)) return BAD;
        if (!rows.containsKey(row)) return found(1);
        return fine(rows.remove(row).length);
    }

    int feed(int letter) {
        if (letter < 0 || letter > 255) return BAD;
        if (tape.length() == 120) return FULL;
        tape.append((char) letter);
        return tape.length();
    }

    /** First all TOKENS, each with its place; then a table of what may stand where. */
    int bank() {
        String text = tape.toString();
        tape.setLength(0);
        List<String> tokens = new ArrayList<>();
        List<Integer> places = new ArrayList<>();
        int at = 0;
        while (at < text.length()) {
            int end = at + 1;
            while (Character.isDigit(text.charAt(at)) && end < text.length() && isFigure(text.charAt(end))) end++;
            tokens.add(text.substring(at, end));
            places.add(at);
            at = end;
        }
        tokens.add("");
        places.add(text.length());
        House h = new House();
        String state = "b";
        List<Integer> numbers = new ArrayList<>();
        char letter = 'b';
        for (int k = 0; k < tokens.size(); k++) {
            String token = tokens.get(k);
            int wrong = 0;
            if (state.startsWith("#")) {
                int least = letter == 'b' && numbers.isEmpty() || letter != 'b' && letter != 'd' && letter != 'p' && numbers.isEmpty() ? 0 : 1;
                int most = letter == 'b' ? 20 : letter == 'd' || letter == 'p' ? 30 : numbers.isEmpty() ? 60 : 9;
                if (!token.matches("[0-9]{1,2}")) {
                    wrong = 1;
                } else if (Integer.parseInt(token) < least || Integer.parseInt(token) > most) {
                    wrong = 2;
                } else {
                    numbers.add(Integer.parseInt(token));
                    state = state.substring(1);
                }
            } else if (state.startsWith(",") || state.startsWith(";")) {
                if (!token.equals(state.substring(0, 1))) {
                    wrong = 1;
                } else {
                    state = state.substring(1);
                    if (state.isEmpty()) {
                        enter(h, letter, numbers);
                        numbers = new ArrayList<>();
                        state = letter == 'b' ? "ckoyn" : letter == 'd' || letter == 'p' ? "dp" : "ckoyndp";
                    }
                }
            } else if (token.isEmpty()) {
                if (state.endsWith("dp")) {
                    house = h;
                    past.clear();
                    return h.ones.size();
                }
                wrong = 1;
            } else if (state.indexOf(token) < 0 || token.length() != 1) {
                wrong = 1;
            } else if ("ckoyn".contains(token) && h.ones.size() == 4 || "dp".contains(token) && h.line.size() == 7) {
                wrong = 3;
            } else {
                letter = token.charAt(0);
                state = letter == 'd' || letter == 'p' ? "#;" : "#,#;";
            }
            if (wrong != 0) {
                fault = wrong;
                return -1000100 - places.get(k);
            }
        }
        throw new IllegalStateException("the end is a token, too");
    }

    private static boolean isFigure(char c) {
        return c >= '0' && c <= '9';
    }

    private static void enter(House h, char letter, List<Integer> numbers) {
        if (letter == 'b') {
            h.infancy = numbers.get(0);
            h.week = numbers.get(1);
        } else if (letter == 'd' || letter == 'p') {
            h.come(letter == 'd', numbers.get(0));
        } else {
            One o = new One();
            o.sort = letter;
            o.days = numbers.get(0);
            o.left = o.days;
            o.care = numbers.get(1);
            h.ones.add(o);
        }
    }

    int fault() {
        return fault;
    }

    int undo() {
        if (past.isEmpty()) return STATE;
        house = past.removeLast();
        return past.size();
    }

    private void act() {
        past.addLast(house.same());
        if (past.size() > 24) past.removeFirst();
    }

    int serve(int n) {
        if (house == null) return STATE;
        if (n < 1 || n > 24) return BAD;
        if (house.turn + n > 999) return FULL;
        for (int k = 0; k < n; k++) {
            act();
            house.turn();
        }
        return house.line.size();
    }

    int counter(int t, int on) {
        if (noOne(t) || on < 0 || on > 1) return BAD;
        if (house.ones.get(t).open == (on == 1)) return STATE;
        act();
        house.ones.get(t).open = on == 1;
        int bits = 0;
        for (int k = 0; k < house.ones.size(); k++) if (house.ones.get(k).open) bits |= 1 << k;
        return bits;
    }

    int come(int draws, int sum) {
        if (house == null) return STATE;
        if (draws < 0 || draws > 1 || sum < 1 || sum > 30) return BAD;
        if (house.line.size() == 7) return FULL;
        act();
        return house.come(draws == 1, sum);
    }

    int dismiss() {
        if (house == null || house.line.isEmpty()) return STATE;
        act();
        house.unpaid++;
        return house.line.remove(0);
    }

    int swap() {
        if (house == null || house.line.size() < 2) return STATE;
        act();
        house.line.add(1, house.line.remove(0));
        return house.line.get(0);
    }

    int teller(int t, int what) {
        if (noOne(t) || what < 0 || what > 4) return BAD;
        One o = house.ones.get(t);
        return new int[] {o.days, o.care, o.left, o.open ? 1 : 0, o.served}[what];
    }

    int paper(int p, int what) {
        if (house == null || !house.slips.containsKey(p) || what < 0 || what > 2) return BAD;
        int place = house.line.indexOf(p);
        return new int[] {house.slips.get(p).sum(), house.slips.get(p).draws() ? 1 : 0, place < 0 ? NONE : place}[what];
    }

    int cost(int t, int sum) {
        return noOne(t) || sum < 1 || sum > 30 ? BAD : house.ones.get(t).cost(sum);
    }

    int queue(int k) {
        if (house == null) return STATE;
        if (k < 0) return BAD;
        return k < house.line.size() ? house.line.get(k) : NONE;
    }

    private House later(int n) {
        House h = house.same();
        for (int k = 0; k < n; k++) h.turn();
        return h;
    }

    int ahead(int t, int n) {
        return noOne(t) || n < 0 || n > 60 ? BAD : later(n).ones.get(t).left;
    }

    int waiting(int n) {
        if (house == null) return STATE;
        return n < 0 || n > 60 ? BAD : later(n).line.stream().mapToInt(p -> 1 << p).sum();
    }

    int server(int p) {
        if (house == null || !house.slips.containsKey(p)) return BAD;
        if (!house.line.contains(p)) return STATE;
        Integer by = later(house.line.indexOf(p)).turn();
        return by == null ? NONE : by;
    }

    int holds() {
        if (house == null) return STATE;
        int n = 0;
        while (n < house.line.size() && later(n + 1).unpaid == house.unpaid) n++;
        return n;
    }

    int infant() {
        if (house == null) return STATE;
        for (int n = 0; n <= house.line.size(); n++) {
            House h = later(n);
            for (int t = 0; t < h.ones.size(); t++) if (h.ones.get(t).left <= h.infancy) return t;
        }
        return NONE;
    }

    private static void permute(List<Integer> rest, List<Integer> taken, Consumer<List<Integer>> visit) {
        if (rest.isEmpty()) visit.accept(taken);
        for (Integer one : rest) {
            List<Integer> less = new ArrayList<>(rest), more = new ArrayList<>(taken);
            less.remove(one);
            more.add(one);
            permute(less, more, visit);
        }
    }

    int order(int k) {
        if (house == null) return STATE;
        if (k < -2) return BAD;
        List<Integer> sorted = new ArrayList<>(house.line);
        sorted.sort(null);
        int[] best = {-1, -1};
        List<Integer> order = new ArrayList<>();
        permute(sorted, new ArrayList<>(), line -> {
            House h = house.same();
            h.line = new ArrayList<>(line);
            for (int n = 0; n < line.size(); n++) h.turn();
            int[] mine = {h.paid - house.paid, h.all()};
            if (Arrays.compare(mine, best) > 0) {
                best[0] = mine[0];
                best[1] = mine[1];
                order.clear();
                order.addAll(line);
            }
        });
        if (k < 0) return best[-1 - k];
        return k < order.size() ? order.get(k) : NONE;
    }

    int share(int k) {
        if (house == null) return STATE;
        if (k < -1) return BAD;
        int papers = house.line.size(), tellers = house.ones.size(), best = -1;
        int[] way = null;
        int ways = (int) Math.pow(tellers, papers);
        next:
        for (int w = 0; w < ways; w++) {
            int[] by = new int[papers];
            for (int p = papers - 1, rest = w; p >= 0; p--, rest /= tellers) by[p] = rest % tellers;
            int[] left = house.ones.stream().mapToInt(o -> o.left).toArray();
            for (int p = 0; p < papers; p++) {
                Slip slip = house.slips.get(house.line.get(p));
                if (slip.draws()) {
                    left[by[p]] -= house.ones.get(by[p]).cost(slip.sum());
                    if (left[by[p]] < house.infancy) continue next;
                } else {
                    left[by[p]] = Math.min(99, left[by[p]] + slip.sum());
                }
            }
            int poorest = Arrays.stream(left).min().getAsInt();
            if (poorest > best) {
                best = poorest;
                way = by;
            }
        }
        if (way == null) return NONE;
        if (k == -1) return best;
        return k < papers ? way[k] : NONE;
    }

    int open(int what) {
        if (house == null) return STATE;
        if (what < 0 || what > 1) return BAD;
        for (int many = 0; many <= house.ones.size(); many++) {
            for (int set = 0; set < 1 << house.ones.size(); set++) {
                if (Integer.bitCount(set) != many) continue;
                House h = house.same();
                for (int t = 0; t < h.ones.size(); t++) h.ones.get(t).open = (set & 1 << t) != 0;
                if (h.allPaid()) return what == 0 ? many : set;
            }
        }
        return NONE;
    }

    int cheap(int sum, int what) {
        if (house == null) return STATE;
        if (sum < 1 || sum > 30 || what < 0 || what > 1) return BAD;
        int least = house.ones.stream().mapToInt(o -> o.cost(sum)).min().getAsInt();
        int t = 0;
        while (house.ones.get(t).cost(sum) != least) t++;
        return what == 0 ? t : least;
    }

    int most() {
        if (house == null) return STATE;
        int best = NONE;
        for (One o : house.ones) {
            for (int sum = 1; sum <= 99; sum++) if (o.open && o.left - o.cost(sum) >= house.infancy) best = Math.max(best, sum);
        }
        return best;
    }

    int twins(int what) {
        if (house == null) return STATE;
        if (what < 0 || what > 1) return BAD;
        List<Integer> pairs = new ArrayList<>();
        for (int pair = 0; pair < 34; pair++) {
            int a = pair / 10, b = pair % 10;
            if (a < b && b < house.ones.size() && house.ones.get(a).left == house.ones.get(b).left) pairs.add(pair);
        }
        return what == 0 ? pairs.size() : pairs.isEmpty() ? NONE : pairs.get(0);
    }

    private int rowFinding(int row, int i, int n) {
        if (!rows.containsKey(row)) return 1;
        return i < 0 || (long) i + n > rows.get(row).length ? 2 : 0;
    }

    private boolean isSo(House h, int t, int row, int i, int n) {
        boolean so = true;
        for (int k = 0; k < n; k++) {
            h.turn();
            so &= h.ones.get(t).left == rows.get(row)[i + k];
        }
        return so;
    }

    int who(int t, int which, int other, int row, int i, int n) {
        if (noOne(t) || which < 0 || which > 1 || noOne(other) || noRow(row) || n < 1 || n > 12) return BAD;
        int wrong = rowFinding(row, i, n);
        if (wrong != 0) return found(wrong);
        int bits = 0;
        for (int k = 1; k <= (which == 0 ? 5 : 9); k++) {
            House h = house.same();
            if (which == 0) h.ones.get(t).sort = " ckoyn".charAt(k);
            else h.ones.get(t).care = k;
            if (isSo(h, other, row, i, n)) bits += 1 << k;
        }
        return fine(bits);
    }

    int sums(int t, int row, int i, int n) {
        if (noOne(t) || noRow(row) || n < 1 || n > 12) return BAD;
        if (house.line.isEmpty()) return STATE;
        int wrong = rowFinding(row, i, n);
        if (wrong != 0) return found(wrong);
        int bits = 0;
        for (int sum = 1; sum <= 30; sum++) {
            House h = house.same();
            int first = h.line.get(0);
            h.slips.put(first, new Slip(h.slips.get(first).draws(), sum));
            if (isSo(h, t, row, i, n)) bits += 1 << sum;
        }
        return fine(bits);
    }

    int stayed(int t, int row, int i, int n) {
        if (noOne(t) || noRow(row) || n < 1 || n > 12) return BAD;
        int wrong = rowFinding(row, i, n);
        if (wrong != 0) return found(wrong);
        int bits = isSo(house.same(), t, row, i, n) ? 128 : 0;
        for (Integer p : house.line) {
            House h = house.same();
            h.line.remove(p);
            if (isSo(h, t, row, i, n)) bits += 1 << p;
        }
        return fine(bits);
    }

    long away(int p, int what) {
        if (house == null) return STATE;
        if (p < 0 || p > 10 || what < 0 || what > 1) return BAD;
        BigInteger above = likely(house, 0, p), below = BigInteger.TEN.pow(house.line.size());
        BigInteger common = above.gcd(below);
        return (what == 0 ? above : below).divide(common).longValueExact();
    }

    private static BigInteger likely(House h, int place, int p) {
        if (place == h.line.size()) return h.allPaid() ? BigInteger.ONE : BigInteger.ZERO;
        House without = h.same();
        without.line.remove(place);
        return likely(h, place + 1, p).multiply(BigInteger.valueOf(10 - p)).add(likely(without, place, p).multiply(BigInteger.valueOf(p)));
    }

    int drawn(int n, int seed, int what) {
        if (house == null) return STATE;
        if (n < 0 || n > 60 || seed < 1 || seed > 999999 || what < 0 || what > 1) return BAD;
        House h = house.same();
        BigInteger x = BigInteger.valueOf(seed);
        for (int k = 0; k < n; k++) {
            x = x.multiply(BigInteger.valueOf(16807)).mod(BigInteger.valueOf(2147483647));
            int v = x.intValueExact();
            if (h.line.size() < 7) h.come(v % 3 != 0, v % 30 + 1);
            h.turn();
        }
        return what == 0 ? h.unpaid - house.unpaid : h.all();
    }

    int image(int k) {
        if (k < 0 || k > 1) return BAD;
        if (house == null) return STATE;
        images[k] = house.same();
        return 1;
    }

    int restore(int k) {
        if (k < 0 || k > 1) return BAD;
        if (images[k] == null) return STATE;
        house = images[k].same();
        past.clear();
        return 1;
    }

    int kind(int t) {
        return noOne(t) ? BAD : house.ones.get(t).kind();
    }

    /** The KINDS as Java's own classes, so that Java says which BODY begins. */
    class AnyTeller {
        final int number;
        final One one;

        AnyTeller(int number) {
            this.number = number;
            this.one = house.ones.get(number);
        }

        int size() {
            trail.add(10);
            return one.care;
        }

        int mark() {
            trail.add(20);
            return number;
        }
    }

    class Careful extends AnyTeller {
        Careful(int number) {
            super(number);
        }

        @Override
        int size() {
            trail.add(11);
            return super.size() + mark();
        }

        @Override
        int mark() {
            trail.add(21);
            return super.mark() + one.left;
        }
    }

    final class Brisk extends Careful {
        Brisk(int number) {
            super(number);
        }

        @Override
        int size() {
            trail.add(12);
            return -super.size();
        }

        @Override
        int mark() {
            trail.add(24);
            return 2 * super.mark();
        }
    }

    final class Rosy extends Careful {
        Rosy(int number) {
            super(number);
        }

        @Override
        int mark() {
            trail.add(22);
            return super.mark() - 1000;
        }
    }

    class Young extends AnyTeller {
        Young(int number) {
            super(number);
        }

        @Override
        int size() {
            trail.add(13);
            return super.size() - 100;
        }

        @Override
        int mark() {
            trail.add(23);
            return super.mark() - size();
        }
    }

    final class Brown extends Young {
        Brown(int number) {
            super(number);
        }

        @Override
        int size() {
            trail.add(14);
            return 2 * super.size();
        }
    }

    private AnyTeller objectOf(int t) {
        return switch (house.ones.get(t).sort) {
            case 'c' -> new Careful(t);
            case 'k' -> new Brisk(t);
            case 'o' -> new Rosy(t);
            case 'y' -> new Young(t);
            default -> new Brown(t);
        };
    }

    int as(int t, int kind) {
        if (noOne(t) || kind < 0 || kind > 5) return BAD;
        List<Class<? extends AnyTeller>> classes =
                List.of(AnyTeller.class, Careful.class, Brisk.class, Rosy.class, Young.class, Brown.class);
        return classes.get(kind).isInstance(objectOf(t)) ? fine(t) : found(3);
    }

    int ask(int t, int what) {
        if (noOne(t) || what < 0 || what > 1) return BAD;
        trail.clear();
        return what == 0 ? objectOf(t).size() : objectOf(t).mark();
    }

    int trace(int i) {
        return i >= 0 && i < trail.size() && i < 16 ? trail.get(i) : NONE;
    }

    int count(int what) {
        boolean none = house == null;
        return switch (what) {
            case 0 -> rows.size();
            case 1 -> none ? 0 : house.ones.size();
            case 2 -> none ? 0 : house.line.size();
            case 3 -> none ? 0 : house.turn;
            case 4 -> none ? 0 : house.paid;
            case 5 -> none ? 0 : house.unpaid;
            case 6 -> past.size();
            case 7 -> tape.length();
            default -> BAD;
        };
    }

    int status() {
        return status;
    }
}
