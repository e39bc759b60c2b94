import java.util.Random;

/** Long runs of calls by chance (always the same ones), each answer compared with the model's. */
public final class ModelTest {
    private static final int RUNS = 1500;
    private static final int CALLS = 450;

    private final Random random;
    private final int run;
    private final RoundTours x = new RoundTours();
    private final Model m = new Model();
    private final StringBuilder told = new StringBuilder();
    private int calls = 0;
    private boolean failed = false;

    private ModelTest(int run) {
        this.run = run;
        this.random = new Random(run);
    }

    public static void main(String[] args) {
        int runs = args.length > 0 ? Integer.parseInt(args[0]) : RUNS;
        long calls = 0;
        for (int run = 0; run < runs && Due.wrong() < 5; run++) {
            ModelTest test = new ModelTest(run);
            test.go();
            calls += test.calls;
        }
        System.out.println(calls + " calls");
        Due.end();
    }

    private int below(int n) {
        return random.nextInt(n);
    }

    private void same(String call, long got, long want) {
        calls++;
        told.append(call).append(" -> ").append(want).append('\n');
        if (got != want && !failed) {
            failed = true;
            Due.due("run " + run + ": " + call, got, want);
            System.out.println(told);
        }
    }

    private void go() {
        while (calls < CALLS && !failed) {
            switch (below(12)) {
                case 0 -> spoiltText();
                case 1 -> change();
                case 2 -> wild();
                case 3 -> smallMatrix();
                default -> soundMatrix();
            }
            if (below(3) > 0) {
                ask();
            }
        }
    }

    // ---- matrices

    private void type(String text) {
        for (int i = 0; i < text.length(); i += 8) {
            long signs = Typing.eight(text, i);
            int n = Math.min(8, text.length() - i);
            if (below(2) == 0 && n < 8) {
                signs |= (long) below(200) << 8 * n;
            }
            same("type(" + signs + "L, " + n + ")", x.type(signs, n), m.type(signs, n));
        }
    }

    private void readText(String text) {
        type(text);
        same("read()", x.read(), m.read());
        same("cities()", x.cities(), m.cities());
    }

    private String spaces() {
        return below(6) == 0 ? " ".repeat(1 + below(3)) : "";
    }

    private String number(int value) {
        String digits = Integer.toString(value);
        return below(12) == 0 ? "0".repeat(below(11 - digits.length())) + digits : digits;
    }

    private String spaced(String... parts) {
        StringBuilder all = new StringBuilder(spaces());
        for (String part : parts) {
            all.append(part).append(spaces());
        }
        return all.toString();
    }

    private String text(char form, int n, int[][] numbers) {
        StringBuilder all = new StringBuilder(spaced("" + form, number(n), ":"));
        for (int[] row : numbers) {
            for (int i = 0; i < row.length; i++) {
                all.append(spaced(number(row[i]), i < row.length - 1 ? "," : ";"));
            }
        }
        return all.toString();
    }

    private int cities() {
        return below(8) == 0 ? 20 : 1 + below(below(2) == 0 ? 9 : 20);
    }

    /** Numbers between some number and its double are always sound. */
    private int[][] upper(int n) {
        int low = new int[] {0, 1, 2, 3, 10, 1000, 1 << 30}[below(7)];
        int spread = low == 0 ? 1 : Math.min(low, 1073741823) + 1;
        boolean star = below(2) == 0;
        int[][] rows = new int[Math.max(0, n - 1)][];
        for (int a = 0; a + 1 < n; a++) {
            rows[a] = new int[n - 1 - a];
            for (int i = 0; i < rows[a].length; i++) {
                rows[a][i] = low + (star && a == 0 ? 0 : below(spread));
            }
        }
        return rows;
    }

    private int[][] points(int n) {
        int most = new int[] {1, 2, 4, 10, 100, 1000000}[below(6)];
        boolean clusters = below(3) == 0;
        int[][] rows = new int[n][2];
        for (int a = 0; a < n; a++) {
            for (int i = 0; i < 2; i++) {
                rows[a][i] = below(most + 1);
                if (clusters && a % 3 != 0) {
                    rows[a][i] = Math.min(1000000, rows[a - a % 3][i] + below(3));
                }
            }
        }
        return rows;
    }

    private String sound() {
        int n = cities();
        switch (below(4)) {
            case 0:
                return text('^', n, upper(n));
            case 1:
                return text('+', n, points(n));
            case 2:
                return text('*', n, points(n));
            default:
                return text('=', n, full(n));
        }
    }

    private int[][] full(int n) {
        int[][] rows = upper(n);
        int[][] all = new int[n][n];
        for (int a = 0; a < n; a++) {
            for (int b = a + 1; b < n; b++) {
                all[a][b] = all[b][a] = rows[a][b - a - 1];
            }
        }
        if (below(3) == 0) {
            all[below(n)][below(n)] += below(3) == 0 ? 1 : 0;
        }
        return all;
    }

    private void soundMatrix() {
        readText(sound());
        flaws();
    }

    private void smallMatrix() {
        int n = 2 + below(4);
        same("begin(" + n + ")", x.begin(n), m.begin(n));
        for (int a = 0; a < n; a++) {
            for (int b = a + 1; b < n; b++) {
                int far = 2 + below(4);
                set(a, b, far, true);
            }
        }
    }

    private void set(int a, int b, int far, boolean both) {
        String call = "set(" + a + ", " + b + ", " + far + ", " + both + ")";
        same(call, x.set(a, b, far, both), m.set(a, b, far, both));
    }

    private void spoiltText() {
        StringBuilder text = new StringBuilder(sound());
        String signs = "=^+*:,; 0123456789x-";
        for (int i = below(2); i >= 0; i--) {
            int at = below(text.length());
            switch (below(5)) {
                case 0 -> text.deleteCharAt(at);
                case 1 -> text.insert(at, signs.charAt(below(signs.length())));
                case 2 -> text.setCharAt(at, signs.charAt(below(signs.length())));
                case 3 -> text.setLength(at);
                default -> text.append(signs.charAt(below(signs.length())));
            }
            if (text.length() == 0) {
                text.append(' ');
            }
        }
        if (below(4) == 0) {
            int at = text.indexOf(":") + 1;
            text.insert(below(at + 1), "99999999999".substring(0, 1 + below(11)));
        }
        readText(text.toString());
        distances();
    }

    private void change() {
        int n = m.cities();
        int a = below(n + 1) - below(2);
        int b = below(n + 1) - below(2);
        switch (below(5)) {
            case 0 -> same("add()", x.add(), m.add());
            case 1 -> same("drop(" + a + ")", x.drop(a), m.drop(a));
            case 2 -> set(a, b, below(5) - 1, below(2) == 0);
            case 3 -> set(a, b, Math.max(0, m.distance(a, b)), below(2) == 0);
            default -> {
                int cities = below(23) - 1;
                same("begin(" + cities + ")", x.begin(cities), m.begin(cities));
            }
        }
        distances();
        flaws();
        all();
    }

    /** Calls that are mostly wrong. */
    private void wild() {
        long signs = random.nextLong();
        int n = below(11) - 1;
        same("type(" + signs + "L, " + n + ")", x.type(signs, n), m.type(signs, n));
        same("clear()", x.clear(), m.clear());
        int a = random.nextInt() >> below(32);
        int b = random.nextInt() >> below(32);
        same("begin(" + a + ")", x.begin(a), m.begin(a));
        same("drop(" + a + ")", x.drop(a), m.drop(a));
        set(a, b, random.nextInt(), true);
        same("flaw(" + a + ")", x.flaw(a), m.flaw(a));
        same("build(" + a + ", " + b + ")", x.build(a, b), m.build(a, b));
        same("better(" + a + ", " + b + ")", x.better(a, b), m.better(a, b));
        same("bound(" + a + ", " + b + ")", x.bound(a, b), m.bound(a, b));
    }

    // ---- questions

    private void distances() {
        for (int i = 0; i < 5; i++) {
            int a = below(m.cities() + 1) - below(2);
            int b = below(m.cities() + 1) - below(2);
            same("distance(" + a + ", " + b + ")", x.distance(a, b), m.distance(a, b));
        }
    }

    private void flaws() {
        for (int what = -1; what < 5; what++) {
            same("flaw(" + what + ")", x.flaw(what), m.flaw(what));
        }
    }

    private void ask() {
        for (int i = 1 + below(8); i > 0; i--) {
            switch (below(9)) {
                case 0 -> same("tree()", x.tree(), m.tree());
                case 1 -> same("match()", x.match(), m.match());
                case 2 -> same("round()", x.round(), m.round());
                case 3, 4 -> build();
                case 5 -> better();
                case 6 -> {
                    if (m.cities() < 9 || m.cities() > 11 || below(10) == 0) {
                        same("best()", x.best(), m.best());
                    }
                }
                case 7 -> bound();
                default -> same("forgive()", x.forgive(), m.forgive());
            }
            if (below(2) == 0) {
                all();
            }
        }
        all();
    }

    private void build() {
        int rule = below(4);
        int city = below(m.cities());
        same("build(" + rule + ", " + city + ")", x.build(rule, city), m.build(rule, city));
    }

    private void better() {
        int kind = below(3);
        int most = below(2) == 0 ? 300 : 1 + below(4);
        same("better(" + kind + ", " + most + ")", x.better(kind, most), m.better(kind, most));
    }

    private void bound() {
        int rounds = below(2) == 0 ? 100 - below(3) : 1 + below(30);
        int step = new int[] {0, 1, 2, 5, 100, 1000000}[below(6)];
        same("bound(" + rounds + ", " + step + ")", x.bound(rounds, step), m.bound(rounds, step));
    }

    /** All that can be asked without changing anything. */
    private void all() {
        for (int c = -1; c <= m.cities(); c++) {
            same("hung(" + c + ")", x.hung(c), m.hung(c));
            same("cut(" + c + ")", x.cut(c), m.cut(c));
            same("odd(" + c + ")", x.odd(c), m.odd(c));
            same("partner(" + c + ")", x.partner(c), m.partner(c));
            same("stop(" + c + ")", x.stop(c), m.stop(c));
            same("place(" + c + ")", x.place(c), m.place(c));
            same("penalty(" + c + ")", x.penalty(c), m.penalty(c));
        }
        for (int i = -1; i < 32; i++) {
            same("corner(" + i + ")", x.corner(i), m.corner(i));
        }
        same("prices()", x.prices(), m.prices());
        same("length()", x.length(), m.length());
    }
}
