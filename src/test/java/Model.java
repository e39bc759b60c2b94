import java.util.ArrayList;
import java.util.Arrays;
import java.util.Collections;
import java.util.HashMap;
import java.util.List;
import java.util.Map;

/** The document's words done in the most direct way, to compare the program with. */
final class Model {
    static final int NONE = -1, UNKNOWN = -101, OUTSIDE = -102, STATE = -103, ROOM = -104;

    StringBuilder tape = new StringBuilder();
    int[][] d = new int[1][1];
    int[] hung;
    int[] partner;
    List<Integer> round;
    List<Integer> tour;
    long[] penalty = new long[1];

    int n() {
        return d.length;
    }

    boolean city(int c) {
        return c >= 0 && c < n();
    }

    void matrix(int[][] to) {
        d = to;
        hung = null;
        partner = null;
        round = null;
        tour = null;
        penalty = new long[n()];
    }

    int begin(int n) {
        if (n < 1 || n > 20) {
            return OUTSIDE;
        }
        matrix(new int[n][n]);
        return n;
    }

    int type(long signs, int n) {
        if (n < 1 || n > 8) {
            return OUTSIDE;
        }
        String more = "";
        for (int i = 0; i < n; i++) {
            long b = signs & 255;
            signs >>= 8;
            if (b < 32 || b > 126) {
                return OUTSIDE;
            }
            more = (char) b + more;
        }
        if (tape.length() + n > 5000) {
            return ROOM;
        }
        tape.append(more);
        return tape.length();
    }

    int clear() {
        int was = tape.length();
        tape.setLength(0);
        return was;
    }

    // ---- texts: all tokens first, then what is due against them

    record Token(int place, String text) {
    }

    static List<Token> tokens(String text) {
        List<Token> all = new ArrayList<>();
        int i = 0;
        while (i < text.length()) {
            char c = text.charAt(i);
            int from = i++;
            if (c == ' ') {
                continue;
            }
            while (Character.isDigit(c) && i < text.length() && Character.isDigit(text.charAt(i))) {
                i++;
            }
            all.add(new Token(from, text.substring(from, i)));
        }
        all.add(new Token(text.length(), ""));
        return all;
    }

    /** The place of the first token that is not as the pattern wants (9 a number, F a form), or NONE. */
    static int syntax(List<Token> tokens, String pattern, boolean whole) {
        for (int i = 0; i < pattern.length(); i++) {
            Token t = tokens.get(i);
            char want = pattern.charAt(i);
            if (want == '9') {
                if (!t.text.matches("[0-9]+")) {
                    return t.place;
                }
                if (t.text.length() > 10) {
                    return t.place + 10;
                }
            } else if (want == 'F' ? !t.text.matches("[=^+*]") : !t.text.equals("" + want)) {
                return t.place;
            }
        }
        Token next = tokens.get(pattern.length());
        return whole && !next.text.isEmpty() ? next.place : NONE;
    }

    static String pattern(char form, int n) {
        StringBuilder p = new StringBuilder("F9:");
        int rows = form == '^' ? n - 1 : n;
        for (int a = 0; a < rows; a++) {
            int width = form == '=' ? n : form == '^' ? n - 1 - a : 2;
            p.append("9,".repeat(width));
            p.setCharAt(p.length() - 1, ';');
        }
        return p.toString();
    }

    int read() {
        String text = tape.toString();
        tape.setLength(0);
        List<Token> tokens = tokens(text);
        int fault = syntax(tokens, "F9:", false);
        if (fault != NONE) {
            return -1000 - fault;
        }
        long n = Long.parseLong(tokens.get(1).text);
        if (n < 1 || n > 20) {
            return -1000 - tokens.get(1).place;
        }
        char form = tokens.get(0).text.charAt(0);
        String pattern = pattern(form, (int) n);
        fault = syntax(tokens, pattern, true);
        if (fault != NONE) {
            return -1000 - fault;
        }
        long most = form == '=' || form == '^' ? 2147483647L : 1000000L;
        List<Integer> numbers = new ArrayList<>();
        for (int i = 3; i < pattern.length(); i++) {
            if (pattern.charAt(i) == '9') {
                long value = Long.parseLong(tokens.get(i).text);
                if (value > most) {
                    return -1000 - tokens.get(i).place;
                }
                numbers.add((int) value);
            }
        }
        matrix(of(form, (int) n, numbers));
        return (int) n;
    }

    static int[][] of(char form, int n, List<Integer> numbers) {
        int[][] to = new int[n][n];
        int at = 0;
        for (int a = 0; a < n; a++) {
            for (int b = form == '^' ? a + 1 : 0; b < n; b++) {
                if (form == '=') {
                    to[a][b] = numbers.get(at++);
                } else if (form == '^') {
                    to[a][b] = to[b][a] = numbers.get(at++);
                } else {
                    long x = Math.abs(numbers.get(2 * a) - numbers.get(2 * b));
                    long y = Math.abs(numbers.get(2 * a + 1) - numbers.get(2 * b + 1));
                    long k = x + y;
                    if (form == '*') {
                        k = Math.max(0, (long) Math.sqrt((double) (x * x + y * y)) - 2);
                        while (k * k < x * x + y * y) {
                            k++;
                        }
                    }
                    to[a][b] = (int) k;
                }
            }
        }
        return to;
    }

    // ---- the matrix

    int add() {
        if (n() == 20) {
            return ROOM;
        }
        int[][] to = new int[n() + 1][n() + 1];
        for (int a = 0; a < n(); a++) {
            System.arraycopy(d[a], 0, to[a], 0, n());
        }
        matrix(to);
        return n() - 1;
    }

    int drop(int city) {
        if (!city(city)) {
            return UNKNOWN;
        }
        if (n() == 1) {
            return STATE;
        }
        int[][] to = new int[n() - 1][n() - 1];
        for (int a = 0; a < to.length; a++) {
            for (int b = 0; b < to.length; b++) {
                to[a][b] = d[a < city ? a : a + 1][b < city ? b : b + 1];
            }
        }
        matrix(to);
        return n();
    }

    int set(int a, int b, int far, boolean both) {
        if (!city(a) || !city(b)) {
            return UNKNOWN;
        }
        if (far < 0) {
            return OUTSIDE;
        }
        int was = d[a][b];
        d[a][b] = far;
        if (both) {
            d[b][a] = far;
        }
        matrix(d);
        return was;
    }

    int distance(int a, int b) {
        return city(a) && city(b) ? d[a][b] : UNKNOWN;
    }

    int cities() {
        return n();
    }

    int[] flaws() {
        for (int a = 0; a < n(); a++) {
            if (d[a][a] != 0) {
                return new int[] {1, a, NONE, NONE};
            }
        }
        for (int a = 0; a < n(); a++) {
            for (int b = a + 1; b < n(); b++) {
                if (d[a][b] != d[b][a]) {
                    return new int[] {2, a, b, NONE};
                }
            }
        }
        for (int a = 0; a < n(); a++) {
            for (int b = 0; b < n(); b++) {
                for (int c = 0; c < n(); c++) {
                    if (d[a][c] > (long) d[a][b] + d[b][c]) {
                        return new int[] {3, a, b, c};
                    }
                }
            }
        }
        return new int[] {0, NONE, NONE, NONE};
    }

    boolean sound() {
        return flaws()[0] == 0;
    }

    int flaw(int what) {
        return what < 0 || what > 3 ? OUTSIDE : flaws()[what];
    }

    // ---- the tree

    static int[] grown(long[][] w, int first) {
        int[] on = new int[w.length];
        Arrays.fill(on, -2);
        on[first] = NONE;
        for (int i = first + 1; i < w.length; i++) {
            int city = NONE;
            int at = NONE;
            for (int c = first; c < w.length; c++) {
                for (int t = first; t < w.length; t++) {
                    if (on[c] == -2 && on[t] != -2 && (city == NONE || w[t][c] < w[at][city])) {
                        city = c;
                        at = t;
                    }
                }
            }
            on[city] = at;
        }
        return on;
    }

    long[][] weights(long[] p) {
        long[][] w = new long[n()][n()];
        for (int a = 0; a < n(); a++) {
            for (int b = 0; b < n(); b++) {
                w[a][b] = d[a][b] + p[a] + p[b];
            }
        }
        return w;
    }

    long tree() {
        if (!sound()) {
            return STATE;
        }
        hung = grown(weights(new long[n()]), 0);
        long sum = 0;
        for (int c = 1; c < n(); c++) {
            sum += d[c][hung[c]];
        }
        return sum;
    }

    int hung(int city) {
        return !city(city) ? UNKNOWN : hung == null ? STATE : hung[city];
    }

    boolean hangs(int c, int on) {
        while (c != NONE && c != on) {
            c = hung[c];
        }
        return c == on;
    }

    int cut(int city) {
        if (!city(city)) {
            return UNKNOWN;
        }
        if (hung == null) {
            return STATE;
        }
        int found = NONE;
        for (int a = 0; a < n(); a++) {
            for (int b = 0; b < n(); b++) {
                if (hangs(a, city) && !hangs(b, city) && !(a == city && b == hung[city])) {
                    found = found == NONE ? d[a][b] : Math.min(found, d[a][b]);
                }
            }
        }
        return found;
    }

    List<Integer> odds() {
        int[] edges = new int[n()];
        for (int c = 1; c < n(); c++) {
            edges[c]++;
            edges[hung[c]]++;
        }
        List<Integer> odds = new ArrayList<>();
        for (int c = 0; c < n(); c++) {
            if (edges[c] % 2 == 1) {
                odds.add(c);
            }
        }
        return odds;
    }

    int odd(int i) {
        return hung == null ? STATE : i >= 0 && i < odds().size() ? odds().get(i) : NONE;
    }

    // ---- the matching: the least sum for each set of odd cities

    long leastSum(List<Integer> odds, int set, Map<Integer, Long> known) {
        if (set == 0) {
            return 0;
        }
        Long before = known.get(set);
        if (before != null) {
            return before;
        }
        int a = Integer.numberOfTrailingZeros(set);
        long least = Long.MAX_VALUE;
        for (int b = a + 1; b < odds.size(); b++) {
            if ((set >> b & 1) == 1) {
                int rest = set & ~(1 << a) & ~(1 << b);
                least = Math.min(least, d[odds.get(a)][odds.get(b)] + leastSum(odds, rest, known));
            }
        }
        known.put(set, least);
        return least;
    }

    long match() {
        if (!sound()) {
            return STATE;
        }
        if (hung == null) {
            tree();
        }
        if (partner == null) {
            partner = new int[n()];
            Arrays.fill(partner, NONE);
            List<Integer> odds = odds();
            Map<Integer, Long> known = new HashMap<>();
            int set = (1 << odds.size()) - 1;
            while (set != 0) {
                long sum = leastSum(odds, set, known);
                int a = Integer.numberOfTrailingZeros(set);
                set &= ~(1 << a);
                for (int b = a + 1; b < odds.size(); b++) {
                    int rest = set & ~(1 << b);
                    int far = d[odds.get(a)][odds.get(b)];
                    if (rest != set && far + leastSum(odds, rest, known) == sum) {
                        partner[odds.get(a)] = odds.get(b);
                        partner[odds.get(b)] = odds.get(a);
                        set = rest;
                        break;
                    }
                }
            }
        }
        long sum = 0;
        for (int c = 0; c < n(); c++) {
            sum += partner[c] > c ? d[c][partner[c]] : 0;
        }
        return sum;
    }

    int partner(int city) {
        return !city(city) ? UNKNOWN : partner == null ? STATE : partner[city];
    }

    long prices() {
        return partner == null ? STATE : 2 * match();
    }

    // ---- the round

    int round() {
        if (!sound()) {
            return STATE;
        }
        match();
        List<List<Integer>> ways = new ArrayList<>();
        for (int c = 0; c < n(); c++) {
            ways.add(new ArrayList<>());
        }
        int count = 0;
        for (int c = 0; c < n(); c++) {
            for (int other : new int[] {hung[c], partner[c] > c ? partner[c] : NONE}) {
                if (other != NONE) {
                    ways.get(c).add(other);
                    ways.get(other).add(c);
                    count++;
                }
            }
        }
        List<Integer> row = new ArrayList<>(List.of(0));
        round = new ArrayList<>();
        while (!row.isEmpty()) {
            Integer last = row.get(row.size() - 1);
            if (ways.get(last).isEmpty()) {
                round.add(0, last);
                row.remove(row.size() - 1);
            } else {
                Integer next = Collections.min(ways.get(last));
                ways.get(last).remove(next);
                ways.get(next).remove(last);
                row.add(next);
            }
        }
        return count;
    }

    int corner(int i) {
        return round == null ? STATE : i >= 0 && i < round.size() ? round.get(i) : NONE;
    }

    // ---- tours

    long lengthOf(List<Integer> cities) {
        long sum = 0;
        for (int i = 0; i < cities.size(); i++) {
            sum += d[cities.get(i)][cities.get((i + 1) % cities.size())];
        }
        return sum;
    }

    long build(int rule, int city) {
        if (rule < 0 || rule > 3) {
            return OUTSIDE;
        }
        if ((rule == 1 || rule == 2) && !city(city)) {
            return UNKNOWN;
        }
        if (!sound()) {
            return STATE;
        }
        if (rule == 0) {
            round();
            tour = new ArrayList<>();
            for (int c : round) {
                if (!tour.contains(c)) {
                    tour.add(c);
                }
            }
        } else {
            tour = rule == 1 ? nearest(city) : rule == 2 ? inserted(city) : paired();
            Collections.rotate(tour, -tour.indexOf(0));
        }
        return lengthOf(tour);
    }

    List<Integer> nearest(int start) {
        List<Integer> way = new ArrayList<>(List.of(start));
        while (way.size() < n()) {
            int[] from = d[way.get(way.size() - 1)];
            List<Integer> left = new ArrayList<>();
            for (int c = 0; c < n(); c++) {
                if (!way.contains(c)) {
                    left.add(c);
                }
            }
            left.sort((a, b) -> from[a] != from[b] ? Integer.compare(from[a], from[b]) : Integer.compare(a, b));
            way.add(left.get(0));
        }
        return way;
    }

    List<Integer> inserted(int start) {
        List<Integer> way = new ArrayList<>(List.of(start));
        while (way.size() < n()) {
            List<Integer> least = null;
            for (int c = 0; c < n(); c++) {
                for (int p = 1; p <= way.size() && !way.contains(c); p++) {
                    List<Integer> tried = new ArrayList<>(way);
                    tried.add(p, c);
                    if (least == null || lengthOf(tried) < lengthOf(least)) {
                        least = tried;
                    }
                }
            }
            way = least;
        }
        return way;
    }

    static boolean joined(List<int[]> pairs, int a, int b, int n) {
        boolean[] seen = new boolean[n];
        seen[a] = true;
        for (int i = 0; i < n; i++) {
            for (int[] p : pairs) {
                if (seen[p[0]] || seen[p[1]]) {
                    seen[p[0]] = seen[p[1]] = true;
                }
            }
        }
        return seen[b];
    }

    List<Integer> paired() {
        List<int[]> all = new ArrayList<>();
        for (int a = 0; a < n(); a++) {
            for (int b = a + 1; b < n(); b++) {
                all.add(new int[] {a, b});
            }
        }
        all.sort((p, q) -> Integer.compare(d[p[0]][p[1]], d[q[0]][q[1]]));
        List<int[]> taken = new ArrayList<>();
        int[] ends = new int[n()];
        for (int[] p : all) {
            boolean free = ends[p[0]] < 2 && ends[p[1]] < 2;
            boolean ring = joined(taken, p[0], p[1], n());
            if (free && (!ring || taken.size() == n() - 1)) {
                taken.add(p);
                ends[p[0]]++;
                ends[p[1]]++;
            }
        }
        List<Integer> way = new ArrayList<>(List.of(0));
        while (way.size() < n()) {
            int last = way.get(way.size() - 1);
            int next = n();
            for (int[] p : taken) {
                int other = p[0] == last ? p[1] : p[1] == last ? p[0] : n();
                if (!way.contains(other)) {
                    next = Math.min(next, other);
                }
            }
            way.add(next);
        }
        return way;
    }

    int stop(int i) {
        return tour != null && i >= 0 && i < n() ? tour.get(i) : NONE;
    }

    int place(int city) {
        return !city(city) ? UNKNOWN : tour == null ? STATE : tour.indexOf(city);
    }

    long length() {
        return tour == null ? STATE : lengthOf(tour);
    }

    List<Integer> turned() {
        for (int i = 0; i < n(); i++) {
            for (int j = i + 1; j < n(); j++) {
                List<Integer> tried = new ArrayList<>(tour);
                Collections.reverse(tried.subList(i + 1, j + 1));
                if (lengthOf(tried) < lengthOf(tour)) {
                    return tried;
                }
            }
        }
        return null;
    }

    List<Integer> moved() {
        for (int k = 1; k <= 3; k++) {
            for (int i = 1; i + k - 1 < n(); i++) {
                for (int p = 0; p < n() - k; p++) {
                    List<Integer> out = new ArrayList<>(tour.subList(i, i + k));
                    for (int way = 0; way < 2; way++) {
                        List<Integer> tried = new ArrayList<>(tour);
                        tried.subList(i, i + k).clear();
                        tried.addAll(p + 1, out);
                        if (lengthOf(tried) < lengthOf(tour)) {
                            return tried;
                        }
                        Collections.reverse(out);
                    }
                }
            }
        }
        return null;
    }

    int better(int kind, int most) {
        if (kind < 0 || kind > 2 || most < 1 || most > 300) {
            return OUTSIDE;
        }
        if (tour == null) {
            return STATE;
        }
        int done = 0;
        while (done < most) {
            List<Integer> next = kind == 1 ? moved() : turned();
            if (next == null && kind == 2) {
                next = moved();
            }
            if (next == null) {
                break;
            }
            tour = next;
            done++;
        }
        return done;
    }

    List<Integer> least;
    long leastLength;

    /** All tours in order of their rows, but those that are too long before they end. */
    void go(List<Integer> way, long far) {
        if (least != null && far >= leastLength) {
            return;
        }
        int last = way.get(way.size() - 1);
        if (way.size() == n()) {
            long all = far + d[last][0];
            if (least == null || all < leastLength) {
                least = new ArrayList<>(way);
                leastLength = all;
            }
            return;
        }
        for (int c = 1; c < n(); c++) {
            if (!way.contains(c)) {
                way.add(c);
                go(way, far + d[last][c]);
                way.remove(way.size() - 1);
            }
        }
    }

    long best() {
        if (!sound()) {
            return STATE;
        }
        if (n() > 11) {
            return ROOM;
        }
        least = null;
        go(new ArrayList<>(List.of(0)), 0);
        tour = least;
        return lengthOf(tour);
    }

    // ---- bounds

    long bound(int rounds, int step) {
        if (rounds < 1 || rounds > 100 || step < 0 || step > 1000000) {
            return OUTSIDE;
        }
        if (!sound()) {
            return STATE;
        }
        if (n() < 3) {
            return n() == 1 ? 0 : 2L * d[0][1];
        }
        List<Long> values = new ArrayList<>();
        for (int r = 0; r < rounds; r++) {
            long[][] w = weights(penalty);
            int[] edges = new int[n()];
            long value = 0;
            int[] on = grown(w, 1);
            for (int c = 2; c < n(); c++) {
                edges[c]++;
                edges[on[c]]++;
                value += w[c][on[c]];
            }
            List<Integer> near = new ArrayList<>();
            for (int c = 1; c < n(); c++) {
                near.add(c);
            }
            near.sort((a, b) -> Long.compare(w[0][a], w[0][b]));
            for (int c : near.subList(0, 2)) {
                edges[0]++;
                edges[c]++;
                value += w[0][c];
            }
            for (int c = 0; c < n(); c++) {
                value -= 2 * penalty[c];
            }
            values.add(value);
            long size = step >> (r / 10);
            for (int c = 0; c < n(); c++) {
                penalty[c] += size * (edges[c] - 2);
            }
        }
        return Collections.max(values);
    }

    long penalty(int city) {
        return city(city) ? penalty[city] : 0;
    }

    int forgive() {
        int count = 0;
        for (long p : penalty) {
            count += p != 0 ? 1 : 0;
        }
        penalty = new long[n()];
        return count;
    }
}
