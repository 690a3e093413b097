import java.math.BigInteger;
import java.util.ArrayList;
import java.util.List;
import java.util.Map;
import java.util.TreeMap;

/** A slow model of TurnFeast that was written from the document alone; ModelTest and EdgesTest compare with it. */
final class Model {
    private static final int NONE = -1, BAD = -2, NOT = -3, FULL = -4;

    /** What one guest's way came to. */
    private static final class Way {
        final Map<Integer, Integer> gave = new TreeMap<>();
        final List<Integer> doors = new ArrayList<>();
        int sleeps = NONE;
        int left;
        int turned;

        int gaveBy(int house) {
            return gave.getOrDefault(house, 0);
        }
    }

    final String[] text = {"", ""};
    int turned = 0;
    int empty = 0;
    final List<int[]> seen = new ArrayList<>();
    final int[] form = {-1, -1, -1, -1};
    final long[][] rows = new long[4][];
    int finding = 0;

    static boolean in(int v, int least, int most) {
        return v >= least && v <= most;
    }

    int type(int t, int b) {
        if (!in(t, 0, 1) || !in(b, 0, 255)) {
            return BAD;
        }
        if (text[t].length() == (t == 0 ? 31 : 47)) {
            return FULL;
        }
        text[t] += (char) b;
        return text[t].length();
    }

    int wipe(int t) {
        if (!in(t, 0, 1)) {
            return BAD;
        }
        int had = text[t].length();
        text[t] = "";
        return had;
    }

    int undo(int t) {
        if (!in(t, 0, 1)) {
            return BAD;
        }
        if (text[t].isEmpty()) {
            return NOT;
        }
        text[t] = text[t].substring(0, text[t].length() - 1);
        return text[t].length();
    }

    /** The fault is the length of the longest beginning that some whole text begins with. */
    int fault(int t) {
        String one = t == 0 ? "[pswv][1-9][0-9]" : "[0-9][0-9][0-7][ud][0-9]";
        if (!in(t, 0, 1)) {
            return BAD;
        }
        if (text[t].isEmpty() || text[t].matches("(?s)" + one + "(;" + one + "){0,7}")) {
            return NONE;
        }
        String whole = t == 0 ? "p10;p10;p10;p10;p10;p10;p10;p10" : "000d0;000d0;000d0;000d0;000d0;000d0;000d0;000d0";
        for (int n = text[t].length(); n > 0; n--) {
            String tried = text[t].substring(0, n) + whole.substring(n);
            if (tried.matches("(?s)" + one + "(;" + one + "){7}")) {
                return n;
            }
        }
        return 0;
    }

    List<int[]> houses() {
        List<int[]> all = new ArrayList<>();
        if (fault(0) == NONE && !text[0].isEmpty()) {
            for (String one : text[0].split(";")) {
                all.add(new int[] {"pswv".indexOf(one.charAt(0)), one.charAt(1) - '0', one.charAt(2) - '0'});
            }
        }
        return all;
    }

    List<int[]> guests() {
        List<int[]> all = new ArrayList<>();
        if (fault(1) == NONE && !text[1].isEmpty()) {
            for (String one : text[1].split(";")) {
                all.add(new int[] {Integer.parseInt(one.substring(0, 2)), one.charAt(2) - '0',
                    one.charAt(3) == 'd' ? 1 : 0, one.charAt(4) - '0'});
            }
        }
        return all;
    }

    List<Integer> order() {
        List<Integer> order = new ArrayList<>();
        for (int h = 0; h < houses().size(); h++) {
            order.add(turned == 1 ? 0 : order.size(), h);
        }
        return order;
    }

    static Way way(List<int[]> houses, List<Integer> order, int empty, int[] guest) {
        Way w = new Way();
        w.left = guest[0];
        char last = '-';
        int place = guest[1];
        while (w.left != 0 && place != -1 && place < order.size()) {
            int h = order.get(place);
            w.doors.add(h);
            place = guest[2] == 1 ? place + 1 : place - 1;
            if ((empty & 1 << h) != 0) {
                continue;
            }
            int portion = houses.get(h)[1] + (last == 's' ? 2 : 0);
            if (portion > w.left && w.turned != guest[3]) {
                w.turned++;
                continue;
            }
            int eats = Math.min(portion, w.left);
            w.gave.put(h, eats);
            w.left -= eats;
            last = "pswv".charAt(houses.get(h)[0]);
            if (last == 'w') {
                w.left >>= 1;
            }
            if (last == 'v' && w.left != 0) {
                w.left = Math.min(99, w.left + 3);
            }
            w.sleeps = w.left == 0 ? h : NONE;
        }
        return w;
    }

    Way wayOf(int g) {
        return way(houses(), order(), empty, guests().get(g));
    }

    boolean noHouse(int h) {
        return !in(h, 0, houses().size() - 1);
    }

    boolean noGuest(int g) {
        return !in(g, 0, guests().size() - 1);
    }

    int house(int h, int what) {
        return noHouse(h) || !in(what, 0, 2) ? BAD : houses().get(h)[what];
    }

    int guest(int g, int what) {
        return noGuest(g) || !in(what, 0, 3) ? BAD : guests().get(g)[what];
    }

    int set(int what, int v) {
        if (what == 0 && in(v, 0, 1)) {
            int was = turned;
            turned = v;
            return was;
        }
        if (what == 1 && in(v, 0, 255)) {
            int was = empty;
            empty = v;
            return was;
        }
        return BAD;
    }

    int at(int place) {
        if (!in(place, 0, 7)) {
            return BAD;
        }
        return place < order().size() ? order().get(place) : NONE;
    }

    int gives(int g, int h) {
        return noGuest(g) || noHouse(h) ? BAD : wayOf(g).gaveBy(h);
    }

    int fed(int g, int what) {
        if (noGuest(g) || !in(what, 0, 3)) {
            return BAD;
        }
        Way w = wayOf(g);
        return new int[] {w.sleeps, w.left, w.turned, w.doors.size()}[what];
    }

    /** What a house gives and its tales. */
    int[] sums(List<int[]> houses, List<Integer> order, int h) {
        int[] sums = {0, 0};
        for (int[] guest : guests()) {
            Way w = way(houses, order, empty, guest);
            sums[0] += w.gaveBy(h);
            sums[1] += w.sleeps == h ? 1 : 0;
        }
        return sums;
    }

    int all(int h, int what) {
        return noHouse(h) || !in(what, 0, 1) ? BAD : sums(houses(), order(), h)[what];
    }

    int price(int h) {
        return noHouse(h) ? -10002 : house(h, 2) + 3 * all(h, 1) - all(h, 0);
    }

    int poor() {
        int best = NONE;
        for (int h = houses().size() - 1; h >= 0; h--) {
            if (best == NONE || all(h, 0) >= all(best, 0)) {
                best = h;
            }
        }
        return best;
    }

    int passed() {
        int bits = 0;
        for (int h = 0; h < houses().size(); h++) {
            boolean by = false;
            for (int g = 0; g < guests().size(); g++) {
                by |= wayOf(g).doors.contains(h);
            }
            bits += by ? 0 : 1 << h;
        }
        return bits;
    }

    static int bestOf(List<int[]> options, int what) {
        int best = 0;
        for (int i = 1; i < options.size(); i++) {
            int[] a = options.get(i);
            int[] b = options.get(best);
            if (a[0] < b[0] || a[0] == b[0] && a[1] > b[1]) {
                best = i;
            }
        }
        return what == 0 ? best : options.get(best)[0];
    }

    int live(int h, int what) {
        if (noHouse(h) || !in(what, 0, 1)) {
            return BAD;
        }
        List<int[]> options = new ArrayList<>();
        for (int place = 0; place < houses().size(); place++) {
            List<Integer> order = order();
            order.remove(Integer.valueOf(h));
            order.add(place, h);
            options.add(sums(houses(), order, h));
        }
        return bestOf(options, what);
    }

    int cook(int h, int what) {
        if (noHouse(h) || !in(what, 0, 1)) {
            return BAD;
        }
        List<int[]> options = new ArrayList<>();
        for (int kind = 0; kind < 4; kind++) {
            List<int[]> houses = houses();
            houses.get(h)[0] = kind;
            options.add(sums(houses, order(), h));
        }
        return bestOf(options, what);
    }

    int fast(int h, int g, int what) {
        if (noHouse(h) || noGuest(g) || !in(what, 0, 1)) {
            return BAD;
        }
        for (int n = 0; n <= 8; n++) {
            for (int bits = 0; bits < 256; bits++) {
                if (Integer.bitCount(bits) == n && way(houses(), order(), bits, guests().get(g)).sleeps == h) {
                    return what == 0 ? n : bits;
                }
            }
        }
        return NONE;
    }

    int soup(int h, int g) {
        if (noHouse(h) || noGuest(g)) {
            return BAD;
        }
        int least = NONE;
        for (int portion = 9; portion > 0; portion--) {
            List<int[]> houses = houses();
            houses.get(h)[1] = portion;
            least = way(houses, order(), empty, guests().get(g)).sleeps == h ? portion : least;
        }
        return least;
    }

    int seen(int h, int much) {
        if (!in(h, 0, 7) || !in(much, 0, 999)) {
            return BAD;
        }
        if (seen.size() == 8) {
            return FULL;
        }
        seen.add(new int[] {h, much});
        return seen.size();
    }

    int forget() {
        int had = seen.size();
        seen.clear();
        return had;
    }

    int read(int s) {
        if (!in(s, 0, 3)) {
            return BAD;
        }
        if (form[s] < 0) {
            return finding(1);
        }
        int n = 0;
        while (2 * n + 1 < rows[s].length && seen((int) rows[s][2 * n], (int) rows[s][2 * n + 1]) > 0) {
            n++;
        }
        return n;
    }

    /** Whether all that was seen comes out so, if these guests come. */
    boolean fits(List<int[]> coming) {
        for (int[] one : seen) {
            int sum = 0;
            for (int[] guest : coming) {
                sum += way(houses(), order(), empty, guest).gaveBy(one[0]);
            }
            if (noHouse(one[0]) || sum != one[1]) {
                return false;
            }
        }
        return true;
    }

    int twice() {
        int bits = 0;
        for (int g = 0; g < guests().size(); g++) {
            List<int[]> coming = guests();
            coming.add(coming.get(g));
            bits |= fits(coming) ? 1 << g : 0;
        }
        return bits;
    }

    int began(int g) {
        if (noGuest(g)) {
            return BAD;
        }
        int bits = 0;
        for (int place = 0; place < 8; place++) {
            for (int down = 0; down < 2; down++) {
                List<int[]> coming = guests();
                coming.get(g)[1] = place;
                coming.get(g)[2] = down;
                bits |= fits(coming) ? 1 << 2 * place + down : 0;
            }
        }
        return bits;
    }

    int ask() {
        int best = NONE;
        int least = 99;
        for (int h = 0; h < houses().size(); h++) {
            Map<Integer, Integer> groups = new TreeMap<>();
            int greatest = 0;
            for (int g = 0; g < guests().size(); g++) {
                if ((twice() >> g) % 2 == 1) {
                    greatest = Math.max(greatest, groups.merge(gives(g, h), 1, Integer::sum));
                }
            }
            if (greatest < least) {
                best = h;
                least = greatest;
            }
        }
        return best;
    }

    long road(int c, int h, int much, int what) {
        if (!in(c, 0, 16) || noHouse(h) || !in(much, 0, 999) || !in(what, 0, 1)) {
            return Long.MIN_VALUE + 2;
        }
        int n = guests().size();
        int[] gave = new int[n];
        for (int g = 0; g < n; g++) {
            gave[g] = gives(g, h);
        }
        BigInteger above = BigInteger.ZERO;
        for (int who = 0; who < 1 << n; who++) {
            int sum = 0;
            for (int g = 0; g < n; g++) {
                sum += (who >> g) % 2 * gave[g];
            }
            int come = Integer.bitCount(who);
            BigInteger part = BigInteger.valueOf(c).pow(come).multiply(BigInteger.valueOf(16 - c).pow(n - come));
            above = sum >= much ? above.add(part) : above;
        }
        BigInteger below = BigInteger.valueOf(16).pow(n);
        BigInteger both = above.gcd(below);
        return (what == 0 ? above : below).divide(both).longValueExact();
    }

    int season(int seed, int n, int h, int what) {
        if (!in(n, 1, 99) || noHouse(h) || !in(what, 0, 1)) {
            return BAD;
        }
        int sum = 0;
        for (int i = 0; i < n && !guests().isEmpty(); i++) {
            seed = (int) (1103515245L * seed + 12345L);
            int g = (int) ((seed & 0xffffffffL) / 65536 % guests().size());
            sum += what == 0 ? gives(g, h) : fed(g, 0) == h ? 1 : 0;
        }
        return sum;
    }

    int finding(int number) {
        finding = number;
        return -10 - number;
    }

    int sheet(int s, int f, int n) {
        if (!in(s, 0, 3) || !in(f, 0, 2) || n > 60) {
            return BAD;
        }
        if (n < 0) {
            return finding(5);
        }
        form[s] = f;
        rows[s] = new long[n];
        return n;
    }

    int lose(int s) {
        if (!in(s, 0, 3)) {
            return BAD;
        }
        if (form[s] < 0) {
            return finding(1);
        }
        form[s] = -1;
        return rows[s].length;
    }

    int lay(int s, int f, int i, int v) {
        if (!in(s, 0, 3) || !in(f, 0, 2)) {
            return BAD;
        }
        if (form[s] < 0) {
            return finding(1);
        }
        if (form[s] != f) {
            return finding(3);
        }
        if (!in(i, 0, rows[s].length - 1)) {
            return finding(2);
        }
        rows[s][i] = f == 0 ? (byte) v : f == 1 ? (short) v : v;
        return 1;
    }

    int get(int s, int f, int i) {
        if (!in(s, 0, 3) || !in(f, 0, 2)) {
            return Integer.MIN_VALUE;
        }
        int wrong = form[s] < 0 ? 1 : form[s] != f ? 3 : in(i, 0, rows[s].length - 1) ? 0 : 2;
        if (wrong != 0) {
            finding(wrong);
            return Integer.MIN_VALUE;
        }
        return (int) rows[s][i];
    }

    int copy(int s, int i, int t, int j, int n) {
        if (!in(s, 0, 3) || !in(t, 0, 3)) {
            return BAD;
        }
        if (form[s] < 0 || form[t] < 0) {
            return finding(1);
        }
        if (form[s] != form[t]) {
            return finding(4);
        }
        if (i < 0 || j < 0 || n < 0 || (long) i + n > rows[s].length || (long) j + n > rows[t].length) {
            return finding(2);
        }
        long[] as = rows[s].clone();
        for (int k = 0; k < n; k++) {
            rows[t][j + k] = as[i + k];
        }
        return 1;
    }

    int write(int what, int s) {
        if (!in(what, 0, 1) || !in(s, 0, 3)) {
            return BAD;
        }
        if (form[s] < 0) {
            return finding(1);
        }
        int n = 0;
        while (n < rows[s].length && n < houses().size()) {
            lay(s, form[s], n, all(n, what));
            n++;
        }
        return n;
    }

    int count(int what) {
        if (!in(what, 0, 8)) {
            return BAD;
        }
        int given = 0;
        int sleepers = 0;
        for (int h = 0; h < houses().size(); h++) {
            given += all(h, 0);
            sleepers += all(h, 1);
        }
        return new int[] {houses().size(), guests().size(), text[0].length(), text[1].length(), given, sleepers,
            empty, seen.size(), finding}[what];
    }

    long digest() {
        List<Long> parts = new ArrayList<>();
        for (int what = 0; what < 8; what++) {
            parts.add((long) count(what));
        }
        parts.add((long) fault(0));
        parts.add((long) fault(1));
        for (int h = 0; h < houses().size(); h++) {
            int[] each = {house(h, 0), house(h, 1), house(h, 2), at(h), all(h, 0), all(h, 1), price(h), live(h, 0),
                live(h, 1), cook(h, 0), cook(h, 1), fast(h, 0, 0), fast(h, 0, 1), soup(h, 0)};
            for (int v : each) {
                parts.add((long) v);
            }
            parts.add(road(5, h, 9, 0));
            parts.add(road(5, h, 9, 1));
            parts.add((long) season(7, 30, h, 0));
            parts.add((long) season(7, 30, h, 1));
        }
        for (int g = 0; g < guests().size(); g++) {
            for (int what = 0; what < 8; what++) {
                parts.add((long) (what < 4 ? guest(g, what) : fed(g, what - 4)));
            }
            parts.add((long) began(g));
            for (int h = 0; h < houses().size(); h++) {
                parts.add((long) gives(g, h));
            }
        }
        int[] last = {poor(), passed(), twice(), ask()};
        for (int v : last) {
            parts.add((long) v);
        }
        long h = 17;
        for (long v : parts) {
            h = 31 * h + v;
        }
        return h;
    }
}
