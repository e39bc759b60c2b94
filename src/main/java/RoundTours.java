import java.util.Arrays;

/**
 * Round tours through at most twenty cities: a least tree, a least matching of its odd cities, a
 * round over both, tours built by several rules and bettered, the least tour, and bounds from below.
 */
public final class RoundTours {
    public static final int NONE = -1;
    public static final int UNKNOWN = -101, OUTSIDE = -102, STATE = -103, ROOM = -104;

    private static final int MOST_CITIES = 20;
    private static final int MOST_SIGNS = 5000;
    private static final int MOST_FOR_LEAST = 11;
    private static final int MOST_BETTERINGS = 300;
    private static final int MOST_ROUNDS = 100;
    private static final int MOST_STEP = 1000000;
    private static final int AT_FAULT = -1000;
    private static final long ENDLESS = 9223372036854775807L;
    private static final int TREE = 0, PAIRING = 1, WALK = 2;

    private final Tape tape = new Tape();
    private final Matrix matrix = new Matrix();
    private final Tree leastTree = new Tree();
    private final Pairing pairing = new Pairing();
    private final Walk walk = new Walk();
    private final Tour tour = new Tour();
    private final Builder builder = new Builder();
    private final Search search = new Search();
    private final Bounds bounds = new Bounds();

    public RoundTours() {
    }

    public int begin(int n) {
        if (n < 1 || n > MOST_CITIES) {
            return OUTSIDE;
        }
        matrix.reset(n);
        forgetMade();
        return n;
    }

    public int type(long signs, int n) {
        return tape.append(signs, n);
    }

    public int clear() {
        return tape.wipe();
    }

    public int read() {
        int fault = tape.parse();
        tape.wipe();
        if (fault != NONE) {
            return AT_FAULT - fault;
        }
        matrix.take(tape.form, tape.count, tape.numbers);
        forgetMade();
        return matrix.count;
    }

    public int add() {
        if (matrix.count == MOST_CITIES) {
            return ROOM;
        }
        matrix.grow();
        forgetMade();
        return matrix.count - 1;
    }

    public int drop(int city) {
        if (!isCity(city)) {
            return UNKNOWN;
        }
        if (matrix.count == 1) {
            return STATE;
        }
        matrix.remove(city);
        forgetMade();
        return matrix.count;
    }

    public int set(int a, int b, int d, boolean both) {
        if (!isCity(a) || !isCity(b)) {
            return UNKNOWN;
        }
        if (d < 0) {
            return OUTSIDE;
        }
        int before = matrix.rows[a][b];
        matrix.tell(a, b, d);
        if (both) {
            matrix.tell(b, a, d);
        }
        forgetMade();
        return before;
    }

    public int distance(int a, int b) {
        return isCity(a) && isCity(b) ? matrix.rows[a][b] : UNKNOWN;
    }

    public int cities() {
        return matrix.count;
    }

    public int flaw(int what) {
        return what < 0 || what > 3 ? OUTSIDE : matrix.flawPart(what);
    }

    public long tree() {
        if (!matrix.isSound()) {
            return STATE;
        }
        need(TREE);
        return leastTree.weight;
    }

    public int hung(int city) {
        if (!isCity(city)) {
            return UNKNOWN;
        }
        return leastTree.made ? leastTree.growth.hung[city] : STATE;
    }

    public int cut(int city) {
        if (!isCity(city)) {
            return UNKNOWN;
        }
        return leastTree.made ? leastTree.leastAcross(matrix, city) : STATE;
    }

    public int odd(int i) {
        if (!leastTree.made) {
            return STATE;
        }
        return i >= 0 && i < leastTree.oddCount ? leastTree.odds[i] : NONE;
    }

    public long match() {
        if (!matrix.isSound()) {
            return STATE;
        }
        need(PAIRING);
        return pairing.sum;
    }

    public int partner(int city) {
        if (!isCity(city)) {
            return UNKNOWN;
        }
        return pairing.made ? pairing.partners[city] : STATE;
    }

    public long prices() {
        return pairing.made ? pairing.priceSum : STATE;
    }

    public int round() {
        if (!matrix.isSound()) {
            return STATE;
        }
        need(WALK);
        return walk.size - 1;
    }

    public int corner(int i) {
        if (!walk.made) {
            return STATE;
        }
        return i >= 0 && i < walk.size ? walk.cornerAt(i) : NONE;
    }

    public long build(int rule, int city) {
        if (rule < 0 || rule > 3) {
            return OUTSIDE;
        }
        if ((rule == 1 || rule == 2) && !isCity(city)) {
            return UNKNOWN;
        }
        if (!matrix.isSound()) {
            return STATE;
        }
        tour.start(matrix.count);
        switch (rule) {
            case 0:
                need(WALK);
                builder.shorten(walk, tour);
                break;
            case 1:
                builder.goNearest(matrix, tour, city);
                break;
            case 2:
                builder.putIn(matrix, tour, city);
                break;
            default:
                builder.joinPairs(matrix, tour);
                break;
        }
        return tour.measure(matrix.rows);
    }

    public int stop(int i) {
        return tour.made && i >= 0 && i < tour.count ? tour.stops[i] : NONE;
    }

    public int place(int city) {
        if (!isCity(city)) {
            return UNKNOWN;
        }
        return tour.made ? tour.placeOf(city) : STATE;
    }

    public long length() {
        return tour.made ? tour.measure(matrix.rows) : STATE;
    }

    public int better(int kind, int most) {
        if (kind < 0 || kind > 2 || most < 1 || most > MOST_BETTERINGS) {
            return OUTSIDE;
        }
        return tour.made ? tour.improve(matrix.rows, kind, most) : STATE;
    }

    public long best() {
        if (!matrix.isSound()) {
            return STATE;
        }
        if (matrix.count > MOST_FOR_LEAST) {
            return ROOM;
        }
        tour.start(matrix.count);
        search.findLeast(matrix, tour);
        return tour.measure(matrix.rows);
    }

    public long bound(int rounds, int step) {
        if (rounds < 1 || rounds > MOST_ROUNDS || step < 0 || step > MOST_STEP) {
            return OUTSIDE;
        }
        return matrix.isSound() ? bounds.climb(matrix, rounds, step) : STATE;
    }

    public long penalty(int city) {
        return isCity(city) ? bounds.penalties[city] : 0;
    }

    public int forgive() {
        return bounds.reset();
    }

    private boolean isCity(int city) {
        return city >= 0 && city < matrix.count;
    }

    private void forgetMade() {
        leastTree.made = false;
        pairing.made = false;
        walk.made = false;
        tour.made = false;
        bounds.reset();
    }

    /** Makes what is not made yet, up to what is wanted: each is made of those before it. */
    private void need(int wanted) {
        if (!leastTree.made) {
            leastTree.make(matrix);
        }
        if (wanted >= PAIRING && !pairing.made) {
            pairing.make(matrix, leastTree);
        }
        if (wanted >= WALK && !walk.made) {
            walk.make(matrix.count, leastTree, pairing);
        }
    }

    private static void turnAround(int[] row, int from, int to) {
        for (int i = from, j = to; i < j; i++, j--) {
            int kept = row[i];
            row[i] = row[j];
            row[j] = kept;
        }
    }

    /** Lets middle .. to come before from .. middle - 1; three turns want no second row. */
    private static void shiftRound(int[] row, int from, int middle, int to) {
        turnAround(row, from, middle - 1);
        turnAround(row, middle, to);
        turnAround(row, from, to);
    }

    /** The distances, and the first flaw, looked for once after each change. */
    private static final class Matrix {
        private int count = 1;
        private final int[][] rows = new int[MOST_CITIES][MOST_CITIES];
        private boolean looked = false;
        private final int[] flawParts = new int[4];

        void reset(int n) {
            count = n;
            looked = false;
            for (int a = 0; a < n; a++) {
                Arrays.fill(rows[a], 0);
            }
        }

        void tell(int a, int b, int d) {
            rows[a][b] = d;
            looked = false;
        }

        void grow() {
            int city = count;
            for (int other = 0; other <= city; other++) {
                tell(city, other, 0);
                tell(other, city, 0);
            }
            count++;
        }

        void remove(int city) {
            for (int a = 0; a < count; a++) {
                System.arraycopy(rows[a], city + 1, rows[a], city, count - 1 - city);
            }
            for (int a = city; a + 1 < count; a++) {
                System.arraycopy(rows[a + 1], 0, rows[a], 0, count);
            }
            count--;
            looked = false;
        }

        void take(int form, int n, int[][] numbers) {
            reset(n);
            for (int a = 0; a < n; a++) {
                if (form == '=') {
                    System.arraycopy(numbers[a], 0, rows[a], 0, n);
                } else {
                    takeBelow(form, a, numbers);
                }
            }
        }

        private void takeBelow(int form, int a, int[][] numbers) {
            for (int b = a + 1; b < count; b++) {
                int d = form == '^' ? numbers[a][b - a - 1] : apart(form, numbers[a], numbers[b]);
                tell(a, b, d);
                tell(b, a, d);
            }
        }

        private static int apart(int form, int[] one, int[] other) {
            long x = Math.abs(one[0] - other[0]);
            long y = Math.abs(one[1] - other[1]);
            return (int) (form == '+' ? x + y : leastRoot(x * x + y * y, x + y));
        }

        /** The least number whose square is at least the given one; top is known to be enough. */
        private static long leastRoot(long square, long top) {
            long low = 0;
            long high = top;
            for (int i = 0; i < 64 && low < high; i++) {
                long middle = (low + high) / 2;
                if (middle * middle >= square) {
                    high = middle;
                } else {
                    low = middle + 1;
                }
            }
            return high;
        }

        boolean isSound() {
            return flawPart(0) == 0;
        }

        int flawPart(int what) {
            if (!looked) {
                keepFlaw(0, NONE, NONE, NONE);
                if (!seeOwn() && !seeUneven()) {
                    seeDetour();
                }
                looked = true;
            }
            return flawParts[what];
        }

        private boolean keepFlaw(int kind, int a, int b, int c) {
            flawParts[0] = kind;
            flawParts[1] = a;
            flawParts[2] = b;
            flawParts[3] = c;
            return true;
        }

        private boolean seeOwn() {
            for (int a = 0; a < count; a++) {
                if (rows[a][a] != 0) {
                    return keepFlaw(1, a, NONE, NONE);
                }
            }
            return false;
        }

        private boolean seeUneven() {
            for (int a = 0; a < count; a++) {
                for (int b = a + 1; b < count; b++) {
                    if (rows[a][b] != rows[b][a]) {
                        return keepFlaw(2, a, b, NONE);
                    }
                }
            }
            return false;
        }

        /** Only c above a: distances are the same both ways here, so one with c below a came before. */
        private boolean seeDetour() {
            for (int a = 0; a < count; a++) {
                for (int b = 0; b < count; b++) {
                    int c = endOfDetour(a, b);
                    if (c != NONE) {
                        return keepFlaw(3, a, b, c);
                    }
                }
            }
            return false;
        }

        private int endOfDetour(int a, int b) {
            int[] straight = rows[a];
            int[] onward = rows[b];
            long first = straight[b];
            for (int c = a + 1; c < count; c++) {
                if (straight[c] > first + onward[c]) {
                    return c;
                }
            }
            return NONE;
        }
    }

    /** The typed signs, and the text that they are. */
    private static final class Tape {
        private static final int FIRST_SIGNS = 64;
        private static final int MOST_DIGITS = 10;
        private static final int MOST_FAR = 2147483647;
        private static final int MOST_IN_POINT = 1000000;

        private byte[] signs = new byte[FIRST_SIGNS];
        private int size = 0;
        private int at = 0;
        private int fault = NONE;
        private int unfit = NONE;
        private int form = 0;
        private int count = 0;
        private final int[][] numbers = new int[MOST_CITIES][MOST_CITIES];

        int append(long bytes, int n) {
            if (n < 1 || n > 8 || !areSigns(bytes, n)) {
                return OUTSIDE;
            }
            if (size + n > MOST_SIGNS) {
                return ROOM;
            }
            if (size + n > signs.length) {
                signs = Arrays.copyOf(signs, Math.min(MOST_SIGNS, 2 * signs.length));
            }
            for (int i = n - 1; i >= 0; i--) {
                signs[size] = (byte) byteOf(bytes, i);
                size++;
            }
            return size;
        }

        int wipe() {
            int before = size;
            size = 0;
            return before;
        }

        private static int byteOf(long bytes, int i) {
            return (int) (bytes >>> (8 * i)) & 255;
        }

        private static boolean areSigns(long bytes, int n) {
            for (int i = 0; i < n; i++) {
                int sign = byteOf(bytes, i);
                if (sign < 32 || sign > 126) {
                    return false;
                }
            }
            return true;
        }

        /** The place of the text's fault, or NONE; form, count and numbers are what it told. */
        int parse() {
            at = 0;
            fault = NONE;
            unfit = NONE;
            takeForm();
            count = takeNumber(1, MOST_CITIES);
            takeSign(':');
            // An unfit n ends the look here: what stands behind the : is looked at no more.
            if (fault == NONE && unfit == NONE) {
                takeRows();
                takeEnd();
            }
            return fault != NONE ? fault : unfit;
        }

        private int here() {
            return at < size ? signs[at] : NONE;
        }

        private boolean atDigit() {
            int sign = here();
            return sign >= '0' && sign <= '9';
        }

        private void skipSpaces() {
            while (at < size && signs[at] == ' ') {
                at++;
            }
        }

        private void takeForm() {
            skipSpaces();
            form = here();
            if (form == '=' || form == '^' || form == '+' || form == '*') {
                at++;
            } else {
                fault = at;
            }
        }

        private void takeSign(int sign) {
            if (fault != NONE) {
                return;
            }
            skipSpaces();
            if (here() == sign) {
                at++;
            } else {
                fault = at;
            }
        }

        private int takeNumber(long low, long high) {
            if (fault != NONE) {
                return 0;
            }
            skipSpaces();
            int start = at;
            long value = 0;
            while (atDigit() && at - start < MOST_DIGITS) {
                value = value * 10 + (here() - '0');
                at++;
            }
            if (at == start || atDigit()) {
                fault = at;
                return 0;
            }
            if (value >= low && value <= high) {
                return (int) value;
            }
            if (unfit == NONE) {
                unfit = start;
            }
            return 0;
        }

        private void takeRows() {
            int rowCount = form == '^' ? count - 1 : count;
            for (int row = 0; row < rowCount && fault == NONE; row++) {
                for (int i = 0; i < widthOf(row) && fault == NONE; i++) {
                    if (i > 0) {
                        takeSign(',');
                    }
                    numbers[row][i] = takeNumber(0, isMatrix() ? MOST_FAR : MOST_IN_POINT);
                }
                takeSign(';');
            }
        }

        private void takeEnd() {
            if (fault == NONE) {
                skipSpaces();
                fault = at < size ? at : NONE;
            }
        }

        private boolean isMatrix() {
            return form == '=' || form == '^';
        }

        private int widthOf(int row) {
            if (form == '=') {
                return count;
            }
            return form == '^' ? count - 1 - row : 2;
        }
    }

    /** A least tree of the cities from a first one on, with a penalty at both ends of an edge. */
    private static final class Growth {
        private final int[] hung = new int[MOST_CITIES];
        private final int[] order = new int[MOST_CITIES];
        private final long[] near = new long[MOST_CITIES];
        private final boolean[] inside = new boolean[MOST_CITIES];

        long grow(Matrix matrix, long[] penalties, int first) {
            for (int city = 0; city < MOST_CITIES; city++) {
                hung[city] = NONE;
                inside[city] = false;
            }
            long weight = 0;
            int last = first;
            inside[first] = true;
            order[0] = first;
            for (int i = 1; i < matrix.count - first; i++) {
                last = nextBehind(matrix, penalties, first, last);
                inside[last] = true;
                order[i] = last;
                weight += near[last];
            }
            return weight;
        }

        private int nextBehind(Matrix matrix, long[] penalties, int first, int last) {
            int[] row = matrix.rows[last];
            int next = first;
            for (int city = first + 1; city < matrix.count; city++) {
                if (inside[city]) {
                    continue;
                }
                long far = row[city] + penalties[last] + penalties[city];
                if (hung[city] == NONE || far < near[city] || far == near[city] && last < hung[city]) {
                    near[city] = far;
                    hung[city] = last;
                }
                if (next == first || near[city] < near[next]) {
                    next = city;
                }
            }
            return next;
        }
    }

    /** The tree from city 0 on, its odd cities, and for each city the set that hangs on it. */
    private static final class Tree {
        private boolean made = false;
        private long weight = 0;
        private int oddCount = 0;
        private final Growth growth = new Growth();
        private final long[] noPenalties = new long[MOST_CITIES];
        private final int[] odds = new int[MOST_CITIES];
        private final int[] below = new int[MOST_CITIES];
        private final int[] edges = new int[MOST_CITIES];

        void make(Matrix matrix) {
            weight = growth.grow(matrix, noPenalties, 0);
            gatherBelow(matrix.count);
            gatherOdds(matrix.count);
            made = true;
        }

        /** Backwards in the order of coming: what hangs on a city came behind it. */
        private void gatherBelow(int count) {
            for (int city = 0; city < count; city++) {
                below[city] = 1 << city;
            }
            for (int i = count - 1; i > 0; i--) {
                int city = growth.order[i];
                below[growth.hung[city]] |= below[city];
            }
        }

        private void gatherOdds(int count) {
            Arrays.fill(edges, 0);
            for (int city = 1; city < count; city++) {
                edges[city]++;
                edges[growth.hung[city]]++;
            }
            oddCount = 0;
            for (int city = 0; city < count; city++) {
                if (edges[city] % 2 != 0) {
                    odds[oddCount] = city;
                    oddCount++;
                }
            }
        }

        int leastAcross(Matrix matrix, int city) {
            int side = below[city];
            int found = NONE;
            for (int a = 0; a < matrix.count; a++) {
                for (int b = 0; b < matrix.count; b++) {
                    boolean across = (side >> a & 1) != 0 && (side >> b & 1) == 0;
                    boolean own = a == city && b == growth.hung[city];
                    if (across && !own && (found == NONE || matrix.rows[a][b] < found)) {
                        found = matrix.rows[a][b];
                    }
                }
            }
            return found;
        }
    }

    /** The least matching of the odd cities, the first one of several, and the sum of its prices. */
    private static final class Pairing {
        // 20 to the sixth times a distance, doubled, leaves room in 64 bits for sums of three.
        private static final int MOST_LEVELS = 6;

        private boolean made = false;
        private long sum = 0;
        private long priceSum = 0;
        private int left = 0;
        private final int[] rest = new int[MOST_CITIES];
        private final int[] partners = new int[MOST_CITIES];
        private final long[] shares = new long[MOST_CITIES];
        private final Matcher matcher = new Matcher();

        void make(Matrix matrix, Tree tree) {
            Arrays.fill(partners, NONE);
            left = tree.oddCount;
            System.arraycopy(tree.odds, 0, rest, 0, left);
            tellCosts(matrix, 0);
            matcher.solve(left);
            priceSum = matcher.provenSum();
            for (int i = 0; i < MOST_CITIES && left > 0; i++) {
                tellCosts(matrix, MOST_LEVELS);
                matcher.solve(left);
                settleFirst(matcher.mate);
            }
            sum = sumOfPairs(matrix);
            made = true;
        }

        /**
         * The partners of the first cities of the rest count as digits below the distances: so a
         * least matching is the first one of several as far as these cities go.
         */
        private void tellCosts(Matrix matrix, int levels) {
            long scale = 1;
            Arrays.fill(shares, 0);
            for (int i = Math.min(levels, left) - 1; i >= 0; i--) {
                shares[i] = scale;
                scale *= left;
            }
            for (int i = 0; i < left; i++) {
                for (int j = i + 1; j < left; j++) {
                    long far = matrix.rows[rest[i]][rest[j]];
                    matcher.tell(i, j, far * scale + j * shares[i]);
                }
            }
        }

        private void settleFirst(int[] mate) {
            for (int i = 0; i < left; i++) {
                if (shares[i] > 0) {
                    partners[rest[i]] = rest[mate[i]];
                    partners[rest[mate[i]]] = rest[i];
                }
            }
            int kept = 0;
            for (int i = 0; i < left; i++) {
                if (partners[rest[i]] == NONE) {
                    rest[kept] = rest[i];
                    kept++;
                }
            }
            left = kept;
        }

        private long sumOfPairs(Matrix matrix) {
            long total = 0;
            for (int city = 0; city < matrix.count; city++) {
                if (partners[city] > city) {
                    total += matrix.rows[city][partners[city]];
                }
            }
            return total;
        }
    }

    /**
     * Least matchings by prices and blossoms. Nodes are the single ones (below FIRST_BLOSSOM) and
     * blossoms, odd rings of nodes; a node that lies in no other is at the top. Trees grow from all
     * unmatched top nodes at once: outer nodes have their root at an even distance, inner ones at
     * an odd one. Costs are doubled, and all prices begin alike, so that all halves are whole.
     */
    private static final class Matcher {
        private static final int FIRST_BLOSSOM = MOST_CITIES;
        // Each blossom joins three nodes or more, and two or more are left at the top.
        private static final int MOST_BLOSSOMS = 10;
        private static final int MOST_NODES = FIRST_BLOSSOM + MOST_BLOSSOMS;
        private static final int MOST_STEPS = 10000;
        private static final int IDLE = 0, OUTER = 1, INNER = 2;

        private int count = 0;
        private long step = 0;
        private int one = NONE;
        private int other = NONE;
        private final long[][] costs = new long[MOST_CITIES][MOST_CITIES];
        private final long[] price = new long[MOST_NODES];
        private final int[] mate = new int[MOST_CITIES];
        private final int[] top = new int[MOST_CITIES];
        private final int[] members = new int[MOST_NODES];
        private final int[] base = new int[MOST_NODES];
        private final int[] mark = new int[MOST_NODES];
        private final int[] from = new int[MOST_NODES];
        private final int[] into = new int[MOST_NODES];
        private final int[] ringSize = new int[MOST_BLOSSOMS];
        // The place in the ring of the node that has the blossom's base.
        private final int[] ringBase = new int[MOST_BLOSSOMS];
        private final int[][] ring = new int[MOST_BLOSSOMS][MOST_CITIES];
        // The edge from a ring's i-th node to the next one leaves it at linkFrom, comes in at linkInto.
        private final int[][] linkFrom = new int[MOST_BLOSSOMS][MOST_CITIES];
        private final int[][] linkInto = new int[MOST_BLOSSOMS][MOST_CITIES];

        void tell(int a, int b, long cost) {
            costs[a][b] = 2 * cost;
            costs[b][a] = 2 * cost;
        }

        void solve(int n) {
            count = n;
            startOver();
            for (int pairs = 0; pairs < count / 2; pairs++) {
                markRoots();
                boolean joined = false;
                for (int i = 0; i < MOST_STEPS && !joined; i++) {
                    findStep();
                    shiftPrices();
                    joined = goOn();
                }
                flipWay(one, other);
                flipWay(other, one);
            }
        }

        private void startOver() {
            long start = leastCost() / 2;
            Arrays.fill(members, 0);
            Arrays.fill(price, 0);
            for (int v = 0; v < count; v++) {
                price[v] = start;
                members[v] = 1 << v;
                mate[v] = NONE;
                top[v] = v;
                base[v] = v;
            }
        }

        private long leastCost() {
            long found = ENDLESS;
            for (int a = 0; a < count; a++) {
                for (int b = a + 1; b < count; b++) {
                    found = Math.min(found, costs[a][b]);
                }
            }
            return found;
        }

        private boolean isTop(int node) {
            return members[node] != 0 && top[base[node]] == node;
        }

        private boolean holds(int node, int v) {
            return (members[node] >> v & 1) != 0;
        }

        private void markRoots() {
            for (int node = 0; node < MOST_NODES; node++) {
                mark[node] = isTop(node) && mate[base[node]] == NONE ? OUTER : IDLE;
            }
        }

        /** The least step of the prices that lets something happen, and between which two it does. */
        private void findStep() {
            step = ENDLESS;
            for (int b = FIRST_BLOSSOM; b < MOST_NODES; b++) {
                if (mark[b] == INNER && isTop(b) && price[b] / 2 < step) {
                    keepStep(price[b] / 2, b, NONE);
                }
            }
            for (int v = 0; v < count && step > 0; v++) {
                if (mark[top[v]] == OUTER) {
                    findStepAt(v);
                }
            }
        }

        private void findStepAt(int v) {
            long[] row = costs[v];
            long paid = price[v];
            int own = top[v];
            for (int w = 0; w < count; w++) {
                int node = top[w];
                int how = mark[node];
                if (node == own || how == INNER || how == OUTER && w < v) {
                    continue;
                }
                long slack = row[w] - paid - price[w];
                if (how == OUTER) {
                    slack /= 2;
                }
                if (slack < step) {
                    keepStep(slack, v, w);
                }
            }
        }

        private void keepStep(long size, int a, int b) {
            step = size;
            one = a;
            other = b;
        }

        private void shiftPrices() {
            if (step == 0) {
                return;
            }
            for (int v = 0; v < count; v++) {
                price[v] += signOf(top[v]) * step;
            }
            for (int b = FIRST_BLOSSOM; b < MOST_NODES; b++) {
                if (isTop(b)) {
                    price[b] += 2 * signOf(b) * step;
                }
            }
        }

        private int signOf(int node) {
            if (mark[node] == IDLE) {
                return 0;
            }
            return mark[node] == OUTER ? 1 : -1;
        }

        /** Does what the prices allow now: true when they join two trees. */
        private boolean goOn() {
            if (other == NONE) {
                dissolve(one);
                return false;
            }
            if (mark[top[other]] == IDLE) {
                annex(one, other);
                return false;
            }
            int meeting = meetingOf(top[one], top[other]);
            if (meeting == NONE) {
                return true;
            }
            enclose(one, other, meeting);
            return false;
        }

        private void annex(int a, int b) {
            int node = top[b];
            annexIn(node, a, b);
            mark[top[mate[base[node]]]] = OUTER;
        }

        private void annexIn(int node, int a, int b) {
            mark[node] = INNER;
            from[node] = a;
            into[node] = b;
        }

        /** The next outer node on the way to the root. */
        private int above(int outer) {
            int way = mate[base[outer]];
            return way == NONE ? NONE : top[from[top[way]]];
        }

        private int meetingOf(int a, int b) {
            int seen = 0;
            int node = a;
            for (int i = 0; i < MOST_NODES && node != NONE; i++) {
                seen |= 1 << node;
                node = above(node);
            }
            node = b;
            for (int i = 0; i < MOST_NODES && node != NONE; i++) {
                if ((seen >> node & 1) != 0) {
                    return node;
                }
                node = above(node);
            }
            return NONE;
        }

        private int stepsBelow(int node, int meeting) {
            int steps = 0;
            for (int at = node; at != meeting && steps < MOST_CITIES; at = above(at)) {
                steps += 2;
            }
            return steps;
        }

        /** Makes a blossom of the ring that the edge a - b closes; its base lies in the meeting. */
        private void enclose(int a, int b, int meeting) {
            int node = unusedBlossom();
            int r = node - FIRST_BLOSSOM;
            int down = stepsBelow(top[a], meeting);
            int up = stepsBelow(top[b], meeting);
            ring[r][0] = meeting;
            ringSize[r] = down + 1 + up;
            ringBase[r] = 0;
            fillDown(r, top[a], down);
            linkFrom[r][down] = a;
            linkInto[r][down] = b;
            fillUp(r, top[b], down + 1);
            mark[node] = OUTER;
            base[node] = base[meeting];
            price[node] = 0;
            for (int i = 0; i < ringSize[r]; i++) {
                members[node] |= members[ring[r][i]];
            }
            putOnTop(node);
        }

        private int unusedBlossom() {
            int node = FIRST_BLOSSOM;
            while (node < MOST_NODES - 1 && members[node] != 0) {
                node++;
            }
            return node;
        }

        private void putOnTop(int node) {
            for (int v = 0; v < count; v++) {
                if (holds(node, v)) {
                    top[v] = node;
                }
            }
        }

        /** Fills the ring's places last .. 1 with the way from an outer node up to the meeting. */
        private void fillDown(int r, int lowest, int last) {
            int outer = lowest;
            for (int i = last; i > 1; i -= 2) {
                int way = mate[base[outer]];
                int inner = top[way];
                ring[r][i] = outer;
                linkFrom[r][i - 1] = way;
                linkInto[r][i - 1] = base[outer];
                ring[r][i - 1] = inner;
                linkFrom[r][i - 2] = from[inner];
                linkInto[r][i - 2] = into[inner];
                outer = top[from[inner]];
            }
        }

        /** Fills the ring's places from first on with the way from an outer node up to the meeting. */
        private void fillUp(int r, int lowest, int first) {
            int outer = lowest;
            for (int i = first; i + 1 < ringSize[r]; i += 2) {
                int way = mate[base[outer]];
                int inner = top[way];
                ring[r][i] = outer;
                linkFrom[r][i] = base[outer];
                linkInto[r][i] = way;
                ring[r][i + 1] = inner;
                linkFrom[r][i + 1] = into[inner];
                linkInto[r][i + 1] = from[inner];
                outer = top[from[inner]];
            }
        }

        private int placeInRing(int r, int v) {
            int i = 0;
            while (i < ringSize[r] - 1 && !holds(ring[r][i], v)) {
                i++;
            }
            return i;
        }

        /** Takes an inner blossom apart; the even way through it, from its entry to its base, stays. */
        private void dissolve(int node) {
            int r = node - FIRST_BLOSSOM;
            int size = ringSize[r];
            int entry = placeInRing(r, into[node]);
            for (int i = 0; i < size; i++) {
                mark[ring[r][i]] = IDLE;
                putOnTop(ring[r][i]);
            }
            annexIn(ring[r][entry], from[node], into[node]);
            int back = entry - ringBase[r] + (entry < ringBase[r] ? size : 0);
            if (back % 2 == 0) {
                keepWayBack(r, entry, back);
            } else {
                keepWayOn(r, entry, size - back);
            }
            members[node] = 0;
        }

        private void keepWayBack(int r, int entry, int steps) {
            int size = ringSize[r];
            for (int i = 2; i <= steps; i += 2) {
                int outer = entry - i + 1 + (entry - i + 1 < 0 ? size : 0);
                int inner = entry - i + (entry - i < 0 ? size : 0);
                mark[ring[r][outer]] = OUTER;
                annexIn(ring[r][inner], linkInto[r][inner], linkFrom[r][inner]);
            }
        }

        private void keepWayOn(int r, int entry, int steps) {
            int size = ringSize[r];
            for (int i = 2; i <= steps; i += 2) {
                int outer = entry + i - 1 - (entry + i - 1 < size ? 0 : size);
                int inner = entry + i - (entry + i < size ? 0 : size);
                mark[ring[r][outer]] = OUTER;
                annexIn(ring[r][inner], linkFrom[r][outer], linkInto[r][outer]);
            }
        }

        /** Matches a with b, and all on the way from a to its root anew. */
        private void flipWay(int a, int b) {
            int here = a;
            int there = b;
            for (int i = 0; i < MOST_NODES; i++) {
                int outer = top[here];
                int way = mate[base[outer]];
                moveBase(outer, here, 0);
                mate[here] = there;
                if (way == NONE) {
                    return;
                }
                int inner = top[way];
                there = into[inner];
                here = from[inner];
                moveBase(inner, there, 0);
                mate[there] = here;
            }
        }

        /** Lets v be the one of the node that is matched outside, and matches the others within. */
        private void moveBase(int node, int v, int depth) {
            if (node < FIRST_BLOSSOM || base[node] == v || depth > MOST_BLOSSOMS) {
                return;
            }
            int r = node - FIRST_BLOSSOM;
            int size = ringSize[r];
            int first = placeInRing(r, v);
            for (int k = 1; k + 1 < size; k += 2) {
                int i = first + k - (first + k < size ? 0 : size);
                int a = linkFrom[r][i];
                int b = linkInto[r][i];
                moveBase(ring[r][i], a, depth + 1);
                moveBase(ring[r][i + 1 < size ? i + 1 : 0], b, depth + 1);
                mate[a] = b;
                mate[b] = a;
            }
            moveBase(ring[r][first], v, depth + 1);
            ringBase[r] = first;
            base[node] = v;
        }

        /** The sum of the prices, when they prove what was found; NONE otherwise. */
        long provenSum() {
            long total = 0;
            for (int a = 0; a < count; a++) {
                total += price[a];
                for (int b = a + 1; b < count; b++) {
                    if (costs[a][b] - price[a] - price[b] + pricesAround(a, b) < 0) {
                        return NONE;
                    }
                }
            }
            for (int b = FIRST_BLOSSOM; b < MOST_NODES; b++) {
                if (members[b] != 0) {
                    total -= price[b] * ((Integer.bitCount(members[b]) - 1) / 2);
                }
            }
            return total;
        }

        private long pricesAround(int a, int b) {
            long total = 0;
            for (int node = FIRST_BLOSSOM; node < MOST_NODES; node++) {
                if (holds(node, a) && holds(node, b)) {
                    total += price[node];
                }
            }
            return total;
        }
    }

    /** The round over the edges of the tree and the pairs of the matching. */
    private static final class Walk {
        private static final int MOST_CORNERS = 2 * MOST_CITIES;

        private boolean made = false;
        private int size = 1;
        // Kept from its end on, since the round grows at its front.
        private final int[] corners = new int[MOST_CORNERS];
        private final int[] row = new int[MOST_CORNERS];
        private final int[][] open = new int[MOST_CITIES][MOST_CITIES];

        void make(int count, Tree tree, Pairing pairing) {
            openWays(count, tree, pairing);
            size = 0;
            int high = 0;
            row[0] = 0;
            for (int i = 0; i < 2 * MOST_CORNERS && high >= 0; i++) {
                int city = row[high];
                int next = leastOpen(city, count);
                if (next == NONE) {
                    corners[size] = city;
                    size++;
                    high--;
                } else {
                    open[city][next]--;
                    open[next][city]--;
                    high++;
                    row[high] = next;
                }
            }
            made = true;
        }

        int cornerAt(int i) {
            return corners[size - 1 - i];
        }

        private void openWays(int count, Tree tree, Pairing pairing) {
            for (int city = 0; city < count; city++) {
                Arrays.fill(open[city], 0);
            }
            for (int city = 0; city < count; city++) {
                openWay(city, tree.growth.hung[city]);
                if (pairing.partners[city] > city) {
                    openWay(city, pairing.partners[city]);
                }
            }
        }

        private void openWay(int a, int b) {
            if (b != NONE) {
                open[a][b]++;
                open[b][a]++;
            }
        }

        private int leastOpen(int city, int count) {
            for (int next = 0; next < count; next++) {
                if (open[city][next] > 0) {
                    return next;
                }
            }
            return NONE;
        }
    }

    /** A tour from city 0 on, and how it is bettered. */
    private static final class Tour {
        private static final int LONGEST_MOVE = 3;
        private static final int TURNS = 0, MOVES = 1;

        private boolean made = false;
        private int count = 0;
        private final int[] stops = new int[MOST_CITIES];

        void start(int n) {
            count = n;
            made = true;
        }

        void turnToFront() {
            shiftRound(stops, 0, placeOf(0), count - 1);
        }

        int placeOf(int city) {
            for (int i = 0; i < count; i++) {
                if (stops[i] == city) {
                    return i;
                }
            }
            return 0;
        }

        long measure(int[][] far) {
            long total = 0;
            for (int i = 0; i < count; i++) {
                total += far[stops[i]][stopAt(i + 1)];
            }
            return total;
        }

        int improve(int[][] far, int kind, int most) {
            int done = 0;
            while (done < most && (kind != MOVES && turnOnce(far) || kind != TURNS && moveOnce(far))) {
                done++;
            }
            return done;
        }

        /** The stop at a place, the place behind the last one being the first again. */
        private int stopAt(int i) {
            return stops[i < count ? i : 0];
        }

        private boolean turnOnce(int[][] far) {
            for (int i = 0; i < count; i++) {
                for (int j = i + 1; j < count; j++) {
                    if (turnPays(far, i, j)) {
                        turnAround(stops, i + 1, j);
                        return true;
                    }
                }
            }
            return false;
        }

        private boolean turnPays(int[][] far, int i, int j) {
            int before = stops[i];
            int first = stops[i + 1];
            int last = stops[j];
            int behind = stopAt(j + 1);
            long was = (long) far[before][first] + far[last][behind];
            return (long) far[before][last] + far[first][behind] < was;
        }

        private boolean moveOnce(int[][] far) {
            for (int k = 1; k <= LONGEST_MOVE; k++) {
                for (int i = 1; i + k <= count; i++) {
                    if (moveSome(far, k, i)) {
                        return true;
                    }
                }
            }
            return false;
        }

        private boolean moveSome(int[][] far, int k, int i) {
            int first = stops[i];
            int last = stops[i + k - 1];
            int before = stops[i - 1];
            int behind = stopAt(i + k);
            long saved = (long) far[before][first] + far[last][behind] - far[before][behind];
            for (int p = 0; p < count - k; p++) {
                int left = stopWithout(k, i, p);
                int right = stopWithout(k, i, p + 1);
                long most = saved + far[left][right];
                if ((long) far[left][first] + far[last][right] < most) {
                    putBehind(k, i, p);
                    return true;
                }
                if ((long) far[left][last] + far[first][right] < most) {
                    turnAround(stops, i, i + k - 1);
                    putBehind(k, i, p);
                    return true;
                }
            }
            return false;
        }

        /** The stop at place p of those left when the k at place i are taken out. */
        private int stopWithout(int k, int i, int p) {
            return stopAt(p < i ? p : p + k);
        }

        private void putBehind(int k, int i, int p) {
            if (p < i) {
                shiftRound(stops, p + 1, i, i + k - 1);
            } else {
                shiftRound(stops, i, i + k, p + k);
            }
        }
    }

    /** Tours by the four rules. */
    private static final class Builder {
        private final boolean[] used = new boolean[MOST_CITIES];
        private final int[] piece = new int[MOST_CITIES];
        private final int[] onePartner = new int[MOST_CITIES];
        private final int[] otherPartner = new int[MOST_CITIES];

        private void useNone() {
            for (int city = 0; city < MOST_CITIES; city++) {
                used[city] = false;
            }
        }

        void shorten(Walk walk, Tour tour) {
            useNone();
            int size = 0;
            for (int i = 0; i < walk.size; i++) {
                int city = walk.cornerAt(i);
                if (!used[city]) {
                    used[city] = true;
                    tour.stops[size] = city;
                    size++;
                }
            }
        }

        void goNearest(Matrix matrix, Tour tour, int start) {
            useNone();
            int city = start;
            for (int i = 0; i < tour.count; i++) {
                tour.stops[i] = city;
                used[city] = true;
                city = nearestUnused(matrix, city);
            }
            tour.turnToFront();
        }

        private int nearestUnused(Matrix matrix, int city) {
            int[] row = matrix.rows[city];
            int found = NONE;
            for (int next = 0; next < matrix.count; next++) {
                if (!used[next] && (found == NONE || row[next] < row[found])) {
                    found = next;
                }
            }
            return found;
        }

        void putIn(Matrix matrix, Tour tour, int start) {
            useNone();
            used[start] = true;
            tour.stops[0] = start;
            for (int size = 1; size < tour.count; size++) {
                putCheapest(matrix, tour.stops, size);
            }
            tour.turnToFront();
        }

        private void putCheapest(Matrix matrix, int[] stops, int size) {
            int city = 0;
            int place = 0;
            long least = ENDLESS;
            for (int next = 0; next < matrix.count; next++) {
                for (int p = 0; p < size && !used[next]; p++) {
                    int left = stops[p];
                    int right = stops[p + 1 < size ? p + 1 : 0];
                    int[] row = matrix.rows[next];
                    long growth = (long) row[left] + row[right] - matrix.rows[left][right];
                    if (growth < least) {
                        least = growth;
                        city = next;
                        place = p;
                    }
                }
            }
            used[city] = true;
            System.arraycopy(stops, place + 1, stops, place + 2, size - 1 - place);
            stops[place + 1] = city;
        }

        void joinPairs(Matrix matrix, Tour tour) {
            for (int city = 0; city < matrix.count; city++) {
                piece[city] = city;
                onePartner[city] = NONE;
                otherPartner[city] = NONE;
            }
            for (int i = 1; i < matrix.count; i++) {
                joinNearest(matrix);
            }
            joinEnds(matrix.count);
            follow(tour);
        }

        /** A pair that could not be taken once never can be later: so no sorted row is wanted. */
        private void joinNearest(Matrix matrix) {
            int a = NONE;
            int b = NONE;
            for (int c = 0; c < matrix.count; c++) {
                int[] row = matrix.rows[c];
                for (int d = c + 1; d < matrix.count && otherPartner[c] == NONE; d++) {
                    boolean free = otherPartner[d] == NONE && piece[c] != piece[d];
                    if (free && (a == NONE || row[d] < matrix.rows[a][b])) {
                        a = c;
                        b = d;
                    }
                }
            }
            if (a != NONE) {
                takePair(a, b);
                renamePiece(piece[b], piece[a], matrix.count);
            }
        }

        private void renamePiece(int old, int name, int count) {
            for (int city = 0; city < count; city++) {
                if (piece[city] == old) {
                    piece[city] = name;
                }
            }
        }

        private void takePair(int a, int b) {
            addPartner(a, b);
            addPartner(b, a);
        }

        private void addPartner(int city, int other) {
            if (onePartner[city] == NONE) {
                onePartner[city] = other;
            } else {
                otherPartner[city] = other;
            }
        }

        /** The last pair can only be that of the two ends, wherever it stands among the pairs. */
        private void joinEnds(int count) {
            int first = NONE;
            for (int city = 0; city < count; city++) {
                if (otherPartner[city] == NONE) {
                    if (first != NONE) {
                        takePair(first, city);
                        return;
                    }
                    first = city;
                }
            }
        }

        private void follow(Tour tour) {
            int before = 0;
            int city = 0;
            tour.stops[0] = 0;
            for (int i = 1; i < tour.count; i++) {
                int next = onePartner[city] == before ? otherPartner[city] : onePartner[city];
                if (i == 1) {
                    next = Math.min(onePartner[0], otherPartner[0]);
                }
                before = city;
                city = next;
                tour.stops[i] = city;
            }
        }
    }

    /** The least tour of all, by the least ways home from each city through each set of cities. */
    private static final class Search {
        // Grows when it is wanted: most objects never ask for the least tour of many cities.
        private long[] home = new long[0];
        private int others = 0;
        private int chosen = NONE;

        void findLeast(Matrix matrix, Tour tour) {
            others = matrix.count - 1;
            int size = others << others;
            if (home.length < size) {
                home = new long[size];
            }
            fill(matrix.rows);
            int city = 0;
            int rest = (1 << others) - 1;
            tour.stops[0] = 0;
            for (int i = 1; i < matrix.count; i++) {
                leastHome(matrix.rows[city], rest);
                city = chosen + 1;
                rest ^= 1 << chosen;
                tour.stops[i] = city;
            }
        }

        /** Set bit c is city c + 1; a set's parts are smaller numbers, so they are filled before. */
        private void fill(int[][] far) {
            for (int rest = 0; rest < 1 << others; rest++) {
                for (int c = 0; c < others; c++) {
                    if ((rest >> c & 1) == 0) {
                        home[rest * others + c] = leastHome(far[c + 1], rest);
                    }
                }
            }
        }

        /** The least way home through a set of cities; the first city on it is chosen. */
        private long leastHome(int[] row, int rest) {
            if (rest == 0) {
                return row[0];
            }
            long found = ENDLESS;
            for (int next = 0; next < others; next++) {
                if ((rest >> next & 1) != 0) {
                    long way = row[next + 1] + home[(rest ^ 1 << next) * others + next];
                    if (way < found) {
                        found = way;
                        chosen = next;
                    }
                }
            }
            return found;
        }
    }

    /** Bounds from below by one-trees, with the penalties that stay between them. */
    private static final class Bounds {
        private static final int ROUNDS_A_STEP = 10;

        private final long[] penalties = new long[MOST_CITIES];
        private final int[] edges = new int[MOST_CITIES];
        private final Growth growth = new Growth();

        int reset() {
            int changed = 0;
            for (int city = 0; city < MOST_CITIES; city++) {
                if (penalties[city] != 0) {
                    changed++;
                }
                penalties[city] = 0;
            }
            return changed;
        }

        long climb(Matrix matrix, int rounds, int firstStep) {
            if (matrix.count < 3) {
                return matrix.count < 2 ? 0 : 2L * matrix.rows[0][1];
            }
            long greatest = -ENDLESS;
            long step = firstStep;
            for (int i = 1; i <= rounds; i++) {
                greatest = Math.max(greatest, growOneTree(matrix));
                punish(matrix.count, step);
                if (i % ROUNDS_A_STEP == 0) {
                    step /= 2;
                }
            }
            return greatest;
        }

        private long growOneTree(Matrix matrix) {
            long value = growth.grow(matrix, penalties, 1);
            Arrays.fill(edges, 0);
            for (int city = 2; city < matrix.count; city++) {
                edges[city]++;
                edges[growth.hung[city]]++;
            }
            int one = nearestToFirst(matrix, NONE);
            int other = nearestToFirst(matrix, one);
            edges[0] = 2;
            edges[one]++;
            edges[other]++;
            value += farFromFirst(matrix, one) + farFromFirst(matrix, other);
            for (int city = 0; city < matrix.count; city++) {
                value -= 2 * penalties[city];
            }
            return value;
        }

        private long farFromFirst(Matrix matrix, int city) {
            return matrix.rows[0][city] + penalties[0] + penalties[city];
        }

        private int nearestToFirst(Matrix matrix, int but) {
            int found = NONE;
            for (int city = 1; city < matrix.count; city++) {
                boolean nearer = found == NONE || farFromFirst(matrix, city) < farFromFirst(matrix, found);
                if (city != but && nearer) {
                    found = city;
                }
            }
            return found;
        }

        private void punish(int count, long step) {
            for (int city = 0; city < count; city++) {
                penalties[city] += step * (edges[city] - 2);
            }
        }
    }
}
