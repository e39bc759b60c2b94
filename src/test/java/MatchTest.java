import java.util.Random;

/**
 * Least matchings with blossoms in blossoms: city 0 is as near to all as can be, so the tree is a
 * star and all cities (an even number) are odd; the others often lie in triples of triples.
 */
public final class MatchTest {
    private static final int NEAR = 1 << 20;

    private final Random random = new Random(7);

    public static void main(String[] args) {
        int times = args.length > 0 ? Integer.parseInt(args[0]) : 6000;
        MatchTest test = new MatchTest();
        for (int i = 0; i < times && Due.wrong() < 5; i++) {
            test.compare(i % 300 == 0 ? 20 : 6 + 2 * test.random.nextInt(5), i);
        }
        Due.end();
    }

    /** Names of cities: those with the same third part lie near each other, then those with the same ninth. */
    private int[] names(int n) {
        int[] name = new int[n];
        for (int c = 1; c < n; c++) {
            int other = 1 + random.nextInt(c);
            name[c] = name[other];
            name[other] = c;
        }
        return name;
    }

    private int[][] distances(int n) {
        int[] name = names(n);
        int noise = 1 + random.nextInt(random.nextBoolean() ? 6 : 50);
        int apart = random.nextBoolean() ? 0 : 1 + random.nextInt(40);
        int[][] d = new int[n][n];
        for (int a = 0; a < n; a++) {
            for (int b = a + 1; b < n; b++) {
                int level = name[a] / 3 == name[b] / 3 ? 0 : name[a] / 9 == name[b] / 9 ? 1 : 3;
                int far = NEAR + 1 + apart * level + random.nextInt(noise);
                d[a][b] = d[b][a] = a == 0 ? NEAR : far;
            }
        }
        return d;
    }

    private void compare(int n, int time) {
        RoundTours x = new RoundTours();
        Model m = new Model();
        int[][] d = distances(n);
        m.matrix(d);
        x.begin(n);
        for (int a = 0; a < n; a++) {
            for (int b = a + 1; b < n; b++) {
                x.set(a, b, d[a][b], true);
            }
        }
        same(time, "match()", x.match(), m.match());
        same(time, "odd(n - 1)", x.odd(n - 1), n - 1);
        same(time, "prices()", x.prices(), m.prices());
        for (int c = 0; c < n; c++) {
            same(time, "partner(" + c + ")", x.partner(c), m.partner(c));
        }
    }

    private void same(int time, String call, long got, long want) {
        Due.due("matching " + time + ": " + call, got, want);
    }
}
