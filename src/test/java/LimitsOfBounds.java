/** Bounds from below, and the penalties that they leave. */
final class LimitsOfBounds extends Limits {
    /** A star round city 1, which has three edges in each one-tree: its penalty tells the steps. */
    private static final String STAR = "^4:1000,2000,2000;1000,1000;2000;";

    @Says(promise = 27, words = "A BOUND of so many rounds with a step, penalties as they are: it.")
    static void boundGoesOnFromThePenalties() {
        // 1 - 2, 1 - 3, 0 - 1, 0 - 2; then, with penalties, 1 - 3, 2 - 3, 0 - 3, 0 - 2.
        RoundTours x = of(MADE);
        due("bound(1, 5)", x.bound(1, 5), 6);
        duePenalties(x, 0, 5, 0, -5);
        due("bound(1, 5) again", x.bound(1, 5), -3);
        duePenalties(x, 0, 0, 0, 0);
        // 1 - 2, 2 - 3, 0 - 1, 0 - 2; no later round has more.
        due("bound(1, 0)", of(LINE).bound(1, 0), 9);
        due("bound(100, 1000000)", of(LINE).bound(100, 1000000), 9);
    }

    @Says(promise = 27, words = "OUTSIDE (rounds 1 .. 100,")
    static void boundOfTooFewOrTooManyRounds() {
        RoundTours x = allMade();
        for (int rounds : new int[] {0, -1, 101, 102, TOP, BOTTOM}) {
            due("bound(" + rounds + ", 5)", x.bound(rounds, 5), OUTSIDE);
            dueAllStays("behind bound(" + rounds + ", 5):", x);
            due("bound(" + rounds + ", 5) of one city", new RoundTours().bound(rounds, 5), OUTSIDE);
            due("bound(" + rounds + ", 5), not sound", of(FLAWED[0]).bound(rounds, 5), OUTSIDE);
        }
        due("bound(1, 0)", of(STAR).bound(1, 0), 5000);
        due("bound(100, 0)", of(STAR).bound(100, 0), 5000);
    }

    @Says(promise = 27, words = "step 0 .. 1000000),")
    static void boundOfTooSmallOrTooLongSteps() {
        RoundTours x = allMade();
        for (int step : new int[] {-1, -2, 1000001, TOP, BOTTOM}) {
            due("bound(1, " + step + ")", x.bound(1, step), OUTSIDE);
            dueAllStays("behind bound(1, " + step + "):", x);
            due("bound(1, " + step + ") of one city", new RoundTours().bound(1, step), OUTSIDE);
            due("bound(1, " + step + "), not sound", of(FLAWED[0]).bound(1, step), OUTSIDE);
        }
        x = of(STAR);
        due("bound(100, 0)", x.bound(100, 0), 5000);
        duePenalties(x, 0, 0, 0, 0);
        due("bound(1, 1000000)", x.bound(1, 1000000), 5000);
        duePenalties(x, 0, 1000000, 0, -1000000);
    }

    @Says(promise = 27, words = "STATE (not SOUND).")
    static void boundRefused() {
        for (String text : FLAWED) {
            RoundTours x = of(text);
            due("bound(1, 5) of " + text, x.bound(1, 5), STATE);
            due("forgive() behind it", x.forgive(), 0);
        }
    }

    @Says(promise = 27, words = "A ONE-TREE: the tree of the cities 1, 2, .. that grows from city 1 as in part 2, with "
            + "distance + both penalties in place of distance;")
    static void oneTreeGrowsFromCityOne() {
        // The tree of 1 and 2 has one edge, and so each city has two of the one-tree.
        RoundTours x = of("^3:3,4;5;");
        due("bound(1, 7) of three cities", x.bound(1, 7), 12);
        duePenalties(x, 0, 0, 0);
        // 2 and 3 are as near to 1: 2 comes, and 3 hangs on it; 0 goes to 1 and 2.
        x = of("^4:5,5,5;5,5;1;");
        due("bound(1, 1)", x.bound(1, 1), 16);
        duePenalties(x, 0, 0, 1, -1);
        // With the penalties 3 is nearest to 1 (4), and 2 hangs on it (1); 0 goes to 3 and 1.
        due("bound(1, 1) again", x.bound(1, 1), 14);
        duePenalties(x, 0, 0, 0, 0);
    }

    @Says(promise = 27, words = "and the two cities to which 0 has the least distance + both penalties (of several "
            + "the least cities).")
    static void oneTreeGoesToTheLeastCities() {
        // All alike: 2 and 3 hang on 1, and 0 goes to 1 and 2.
        RoundTours x = of(allAlike(4, 5));
        due("bound(1, 2)", x.bound(1, 2), 20);
        duePenalties(x, 0, 2, 0, -2);
        // 3 comes to 1 (5), then 2 to 3 (3); 0 goes to 3 (3) and 2 (5).
        due("bound(1, 2) again", x.bound(1, 2), 16);
        duePenalties(x, 0, 0, 0, 0);
        x = of(allAlike(MOST_CITIES, 5));
        due("bound(1, 2) of twenty", x.bound(1, 2), 100);
        due("penalty(1)", x.penalty(1), 2 * 17);
        due("penalty(2)", x.penalty(2), 0);
        due("penalty(3)", x.penalty(3), -2);
        due("penalty(19)", x.penalty(19), -2);
    }

    @Says(promise = 27, words = "Its VALUE is the sum of distance + both penalties over all that it has, less twice "
            + "the sum of all penalties.")
    static void valueWithPenalties() {
        // 1 - 3 (1000), 1 - 2 (1100), 0 - 1 (1100), 0 - 3 (1900).
        RoundTours x = of(STAR);
        due("bound(1, 100)", x.bound(1, 100), 5000);
        duePenalties(x, 0, 100, 0, -100);
        due("bound(1, 0)", x.bound(1, 0), 5100);
    }

    @Says(promise = 27, words = "A BOUND of r rounds with a step: in each round a one-tree is made, then each city's "
            + "penalty grows by the step times (how many edges of the one-tree it has, less 2);")
    static void penaltiesGrowByEdges() {
        RoundTours x = of(STAR);
        x.bound(1, 7);
        duePenalties(x, 0, 7, 0, -7);
        x = of(allAlike(MOST_CITIES, 5));
        x.bound(1, 1000000);
        due("penalty(0), two edges", x.penalty(0), 0);
        due("penalty(1), 19 edges", x.penalty(1), 17000000);
        due("penalty(19), one edge", x.penalty(19), -1000000);
    }

    @Says(promise = 27, words = "behind each tenth round the step is halved (cut).")
    static void stepsAreHalved() {
        int[][] want = {{1, 5}, {9, 45}, {10, 50}, {11, 52}, {20, 70}, {21, 71}, {30, 80}, {31, 80}, {100, 80}};
        for (int[] w : want) {
            RoundTours x = of(STAR);
            x.bound(w[0], 5);
            due("penalty(1) behind " + w[0] + " rounds", x.penalty(1), w[1]);
        }
        RoundTours x = of(STAR);
        x.bound(10, 5);
        x.bound(11, 5);
        due("penalty(1), a new bound begins with its own step", x.penalty(1), 50 + 52);
    }

    @Says(promise = 27, words = "The bound is the greatest value of all rounds.")
    static void boundIsTheGreatestValue() {
        // The values are 6, -3, ..: the first one
        due("bound(2, 5)", of(MADE).bound(2, 5), 6);
        // 5000, 5100: the last one
        due("bound(2, 100)", of(STAR).bound(2, 100), 5100);
        // 5000, 5256, 5768, 5720: one between
        due("bound(4, 256)", of(STAR).bound(4, 256), 5768);
        // 1 - 3 (1000), 2 - 3 and 0 - 3 (2000 - 1000000 each), 0 - 2 (2000): all values are below 0.
        RoundTours x = of(STAR);
        x.bound(1, 1000000);
        due("bound(100, 0) below 0", x.bound(100, 0), 7000 - 2000000);
    }

    @Says(promise = 27, words = "All sums of distances are reckoned in 64 bits.")
    static void boundOfFarCities() {
        due("bound(1, 0) of twenty", of(allAlike(MOST_CITIES, TOP)).bound(1, 0), 20L * TOP);
        due("bound(1, 0) of three", of(allAlike(3, TOP)).bound(1, 0), 3L * TOP);
    }

    @Says(promise = 27, words = "For one city it is 0, for two twice their distance, and penalties stay.")
    static void boundOfOneAndTwoCities() {
        RoundTours x = new RoundTours();
        due("bound(100, 1000000) of one", x.bound(100, 1000000), 0);
        duePenalties(x, 0);
        x = of("^2:2147483647;");
        due("bound(100, 1000000) of two", x.bound(100, 1000000), 4294967294L);
        duePenalties(x, 0, 0);
        due("forgive()", x.forgive(), 0);
        x.drop(1);
        due("bound(1, 1) of one behind two", x.bound(1, 1), 0);
        x.begin(2);
        due("bound(1, 1) of two without a distance", x.bound(1, 1), 0);
    }

    @Says(promise = 28, words = "The penalty of a city;")
    static void penaltyOfTheFirstAndTheLast() {
        RoundTours x = of(MADE);
        x.bound(1, 5);
        due("penalty(0)", x.penalty(0), 0);
        due("penalty(3)", x.penalty(3), -5);
        x.tree();
        x.build(0, 0);
        x.best();
        x.better(2, 300);
        duePenalties(x, 0, 5, 0, -5);
    }

    @Says(promise = 28, words = "PENALTIES p of cities are 64 bits, 0 at first.")
    static void penaltiesAtFirstAndFarOut() {
        due("penalty(0) of a new object", new RoundTours().penalty(0), 0);
        RoundTours x = new RoundTours();
        x.begin(MOST_CITIES);
        for (int c = 0; c < MOST_CITIES; c++) {
            due("penalty(" + c + ")", x.penalty(c), 0);
        }
        // The greatest distance and a penalty above 0 don't go into 32 bits: 1 is farthest then.
        x = of(allAlike(4, TOP));
        due("bound(1, 9)", x.bound(1, 9), 4L * TOP);
        duePenalties(x, 0, 9, 0, -9);
        due("bound(1, 9) again", x.bound(1, 9), 4L * TOP - 18);
        duePenalties(x, 0, 0, 0, 0);
    }

    @Says(promise = 28, words = "0 for none such.")
    static void penaltyOfNoCity() {
        RoundTours x = allMade();
        for (int city : noCities(4)) {
            due("penalty(" + city + ")", x.penalty(city), 0);
        }
    }

    @Says(promise = 29, words = "All penalties are 0 again: how many were not.")
    static void forgiveNoneAndMany() {
        RoundTours x = new RoundTours();
        due("forgive() of a new object", x.forgive(), 0);
        x = allMade();
        due("forgive()", x.forgive(), 2);
        duePenalties(x, 0, 0, 0, 0);
        due("forgive() again", x.forgive(), 0);
        due("length() behind it", x.length(), 7);
        due("hung(2) behind it", x.hung(2), 1);
        due("bound(1, 5) from 0 on", x.bound(1, 5), 6);
        x = of(allAlike(MOST_CITIES, 5));
        x.bound(1, 1);
        // All but 0 and 2, which have two edges
        due("forgive() of twenty", x.forgive(), 18);
        due("penalty(19)", x.penalty(19), 0);
    }
}
