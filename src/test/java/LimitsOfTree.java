/** The tree, its cuts and its odd cities. */
final class LimitsOfTree extends Limits {
    @Says(promise = 12, words = "THE TREE is made: its weight.")
    static void treeOfFewAndMany() {
        RoundTours x = new RoundTours();
        due("tree() of one city", x.tree(), 0);
        due("hung(0)", x.hung(0), NONE);
        x = of("^2:7;");
        due("tree() of two cities", x.tree(), 7);
        due("tree() again", x.tree(), 7);
        due("hung(1)", x.hung(1), 0);
        x.begin(MOST_CITIES);
        due("tree() without distances", x.tree(), 0);
        due("hung(19)", x.hung(19), 0);
    }

    @Says(promise = 12, words = "STATE (the matrix is not SOUND).")
    static void treeRefused() {
        for (String text : FLAWED) {
            RoundTours x = of(text);
            due("tree() of " + text, x.tree(), STATE);
            due("hung(0)", x.hung(0), STATE);
            due("odd(0)", x.odd(0), STATE);
        }
    }

    @Says(promise = 12, words = "THE TREE grows from city 0: again and again, of all cities that are not in it "
            + "the one with the least distance from a city in it comes to it (of several the least city),")
    static void treeTakesTheLeastCityOfSeveral() {
        // 1 and 2 are as near to 0: 1 comes, and 2 hangs on it, not the other way round.
        RoundTours x = of("^3:5,5;1;");
        due("tree()", x.tree(), 6);
        dueHung(x, NONE, 0, 1);
        // 3 is nearest to 0; then 1 by 0 and 2 by 3 are as near: 1 comes, and 2 hangs on it.
        x = of("^4:5,6,2;1,6;5;");
        due("tree()", x.tree(), 8);
        dueHung(x, NONE, 0, 1, 0);
    }

    @Says(promise = 13, words = "HUNG on that city in it (of several with this distance the least).")
    static void hungOnTheLeastOfSeveral() {
        RoundTours x = of(allAlike(MOST_CITIES, 3));
        due("tree()", x.tree(), 57);
        for (int c = 1; c < MOST_CITIES; c++) {
            due("hung(" + c + ")", x.hung(c), 0);
        }
        // 3 comes first, then 1 (by 0 and 3 as near), then 2 (by 1 and 3 as near, not by 0).
        x = of("^4:4,6,3;4,4;4;");
        due("tree()", x.tree(), 11);
        dueHung(x, NONE, 0, 1, 0);
    }

    @Says(promise = 12, words = "Its WEIGHT is the sum of those distances.")
    static void treeWeighsItsEdges() {
        RoundTours x = of(LINE);
        due("tree() of a line", x.tree(), 6);
        dueHung(x, NONE, 0, 1, 2);
    }

    @Says(promise = 12, words = "All sums of distances are reckoned in 64 bits.")
    static void treeOfFarCities() {
        due("tree() of three", of(allAlike(3, TOP)).tree(), 4294967294L);
        due("tree() of twenty", of(allAlike(MOST_CITIES, TOP)).tree(), 19L * TOP);
    }

    @Says(promise = 13, words = "The city on which a city is hung;")
    static void hungOnTheLastCity() {
        // City 19 comes to 0 first, and all others hang on it.
        RoundTours x = of(allAlike(MOST_CITIES, 4));
        for (int c = 0; c < 19; c++) {
            x.set(c, 19, 2, true);
        }
        due("tree()", x.tree(), 38);
        due("hung(19)", x.hung(19), 0);
        due("hung(18)", x.hung(18), 19);
        due("hung(1)", x.hung(1), 19);
    }

    @Says(promise = 13, words = "NONE for city 0.")
    static void hungOfTheFirstCity() {
        RoundTours x = new RoundTours();
        x.tree();
        due("hung(0) of one city", x.hung(0), NONE);
        x = of(LINE);
        x.tree();
        due("hung(0) of four", x.hung(0), NONE);
    }

    @Says(promise = 13, words = "UNKNOWN,")
    static void hungOfNoCity() {
        RoundTours x = of(LINE);
        for (int city : noCities(4)) {
            due("hung(" + city + ") without a tree", x.hung(city), UNKNOWN);
        }
        x.tree();
        for (int city : noCities(4)) {
            due("hung(" + city + ")", x.hung(city), UNKNOWN);
        }
    }

    @Says(promise = 13, words = "STATE (there is no tree).")
    static void hungWithoutATree() {
        RoundTours x = of(LINE);
        for (int c = 0; c < 4; c++) {
            due("hung(" + c + ")", x.hung(c), STATE);
        }
        due("hung(0) of a new object", new RoundTours().hung(0), STATE);
        // Tours by these rules and bounds make no tree.
        x.build(1, 0);
        x.build(2, 0);
        x.build(3, 0);
        x.best();
        x.bound(1, 1);
        due("hung(1) behind other calls", x.hung(1), STATE);
    }

    @Says(promise = 14, words = "The least distance of two cities on both sides of a city's CUT, "
            + "but the one by which it is hung;")
    static void cutBesideItsOwnEdge() {
        RoundTours x = of(LINE);
        x.tree();
        due("cut(1): 0 - 2", x.cut(1), 3);
        due("cut(2): 0 - 2", x.cut(2), 3);
        due("cut(3): 1 - 3", x.cut(3), 5);
        x = of("^3:5,5;5;");
        x.tree();
        due("cut(1), as near as its edge", x.cut(1), 5);
        x = of(allAlike(3, TOP));
        x.tree();
        due("cut(2), as far as can be", x.cut(2), TOP);
        x.begin(3);
        x.tree();
        due("cut(1) without distances", x.cut(1), 0);
    }

    @Says(promise = 14, words = "THE CUT of a city but 0 has on one side it and all that hang on it or on such "
            + "a one, on the other side the others.")
    static void cutOfAChain() {
        // Twenty cities on a line: 0, 10, 20, ..: all behind a city hang on it.
        StringBuilder text = new StringBuilder("+20:");
        for (int c = 0; c < MOST_CITIES; c++) {
            text.append(10 * c).append(",0;");
        }
        RoundTours x = of(text.toString());
        x.tree();
        for (int c = 1; c < MOST_CITIES; c++) {
            due("cut(" + c + ")", x.cut(c), 20);
        }
        // On a ring 0 - 1 - 2 - 3 the last one is near to 0 again: it lies behind 1 and 2.
        x = of("^4:3,6,4;3,6;3;");
        due("tree()", x.tree(), 9);
        due("cut(1): 3 - 0", x.cut(1), 4);
        due("cut(2): 3 - 0", x.cut(2), 4);
        due("cut(3): 3 - 0", x.cut(3), 4);
    }

    @Says(promise = 14, words = "NONE when there are no such two,")
    static void cutOfTwoCities() {
        RoundTours x = of("^2:5;");
        x.tree();
        due("cut(1)", x.cut(1), NONE);
        x.begin(2);
        x.tree();
        due("cut(1) without a distance", x.cut(1), NONE);
    }

    @Says(promise = 14, words = "and for city 0.")
    static void cutOfTheFirstCity() {
        RoundTours x = new RoundTours();
        x.tree();
        due("cut(0) of one city", x.cut(0), NONE);
        x = of(LINE);
        x.tree();
        due("cut(0) of four", x.cut(0), NONE);
    }

    @Says(promise = 14, words = "UNKNOWN,")
    static void cutOfNoCity() {
        RoundTours x = of(LINE);
        for (int city : noCities(4)) {
            due("cut(" + city + ") without a tree", x.cut(city), UNKNOWN);
        }
        x.tree();
        for (int city : noCities(4)) {
            due("cut(" + city + ")", x.cut(city), UNKNOWN);
        }
    }

    @Says(promise = 14, words = "STATE (there is no tree).")
    static void cutWithoutATree() {
        RoundTours x = of(LINE);
        for (int c = 0; c < 4; c++) {
            due("cut(" + c + ")", x.cut(c), STATE);
        }
        due("cut(0) of a new object", new RoundTours().cut(0), STATE);
    }

    @Says(promise = 15, words = "The i-th odd city (0 the first);")
    static void oddFirstAndLast() {
        RoundTours x = of(LINE);
        x.tree();
        due("odd(0)", x.odd(0), 0);
        due("odd(1)", x.odd(1), 3);
        x.begin(MOST_CITIES);
        x.tree();
        for (int i = 0; i < MOST_CITIES; i++) {
            due("odd(" + i + ")", x.odd(i), i);
        }
    }

    @Says(promise = 15, words = "ODD cities have an odd number of EDGES of the tree.")
    static void oddByEdges() {
        RoundTours x = new RoundTours();
        x.tree();
        due("odd(0) of one city without edges", x.odd(0), NONE);
        x.begin(2);
        x.tree();
        due("odd(0) of two", x.odd(0), 0);
        due("odd(1) of two", x.odd(1), 1);
        due("odd(2) of two", x.odd(2), NONE);
        // A star: 0 has two edges, then three, then four.
        for (int n = 3; n <= 5; n++) {
            x.begin(n);
            x.tree();
            due("odd(0) of a star of " + n, x.odd(0), n % 2 == 0 ? 0 : 1);
        }
    }

    @Says(promise = 15, words = "NONE.")
    static void oddBeforeTheFirstAndBehindTheLast() {
        RoundTours x = of(LINE);
        x.tree();
        for (int i : new int[] {-1, 2, 3, 4, MOST_CITIES, TOP, BOTTOM}) {
            due("odd(" + i + ")", x.odd(i), NONE);
        }
        x.begin(MOST_CITIES);
        x.tree();
        due("odd(20) of twenty", x.odd(MOST_CITIES), NONE);
        // Fewer odd cities than before: nothing of those is left.
        x.begin(3);
        x.tree();
        due("odd(2) of three", x.odd(2), NONE);
    }

    @Says(promise = 15, words = "STATE (there is no tree).")
    static void oddWithoutATree() {
        RoundTours x = of(LINE);
        for (int i : new int[] {-1, 0, 4, TOP, BOTTOM}) {
            due("odd(" + i + ")", x.odd(i), STATE);
        }
    }
}
