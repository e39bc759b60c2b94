/** A new object, and the calls that change the cities and their distances or ask for them. */
final class LimitsOfCities extends Limits {
    @Says(promise = 1, words = "One city, its distance to itself 0;")
    static void newObjectHasOneCity() {
        RoundTours x = new RoundTours();
        due("cities()", x.cities(), 1);
        due("distance(0, 0)", x.distance(0, 0), 0);
        due("distance(0, 1)", x.distance(0, 1), UNKNOWN);
        due("distance(1, 0)", x.distance(1, 0), UNKNOWN);
        dueNothingMade("new:", x);
        due("forgive()", x.forgive(), 0);
    }

    @Says(promise = 1, words = "an empty tape.")
    static void newObjectHasAnEmptyTape() {
        due("clear()", new RoundTours().clear(), 0);
        due("read()", new RoundTours().read(), -1000);
        due("type(61, 1)", new RoundTours().type('=', 1), 1);
    }

    @Says(promise = 1, words = "An object is used for at most 512 calls after it has been made; "
            + "what later calls answer is free.")
    static void lastCallIsAnswered() {
        RoundTours x = new RoundTours();
        for (int call = 1; call <= 512; call++) {
            due("add() or drop(0), call " + call, call % 2 == 1 ? x.add() : x.drop(0), 1);
        }
        x = new RoundTours();
        for (int call = 1; call <= 511; call++) {
            due("cities(), call " + call, x.cities(), 1);
        }
        due("tree(), call 512", x.tree(), 0);
    }

    @Says(promise = 2, words = "CITIES are 0 .. n - 1, n 1 ..")
    static void beginAtTheFewestAndMost() {
        RoundTours x = of(LINE);
        for (int n : new int[] {1, 2, 19, MOST_CITIES, 1}) {
            due("begin(" + n + ")", x.begin(n), n);
            due("distance of the first", x.distance(0, 0), 0);
            due("distance of the last", x.distance(n - 1, n - 1), 0);
            due("distance of the one behind", x.distance(n, n), UNKNOWN);
            due("distance of the one before", x.distance(-1, -1), UNKNOWN);
        }
    }

    @Says(promise = 2, words = "So many cities, all distances 0: n.")
    static void beginForgetsDistances() {
        RoundTours x = of(allAlike(MOST_CITIES, 9));
        due("begin(1)", x.begin(1), 1);
        due("begin(20)", x.begin(MOST_CITIES), MOST_CITIES);
        due("cities()", x.cities(), MOST_CITIES);
        for (int a = 0; a < MOST_CITIES; a++) {
            for (int b = a % 2; b < MOST_CITIES; b += 2) {
                due("distance(" + a + ", " + b + ")", x.distance(a, b), 0);
            }
        }
    }

    @Says(promise = 2, words = "OUTSIDE.")
    static void beginRefused() {
        RoundTours x = allMade();
        for (int n : new int[] {0, -1, 21, 22, TOP, BOTTOM}) {
            due("begin(" + n + ")", x.begin(n), OUTSIDE);
            dueAllStays("behind begin(" + n + "):", x);
        }
    }

    @Says(promise = 6, words = "A city more, its distances all 0: its number.")
    static void addUpToTheMost() {
        RoundTours x = new RoundTours();
        for (int city = 1; city < MOST_CITIES; city++) {
            due("add()", x.add(), city);
            due("cities()", x.cities(), city + 1);
        }
        x = of("=2:1,2;3,4;");
        due("add()", x.add(), 2);
        for (int c = 0; c < 3; c++) {
            due("distance(2, " + c + ")", x.distance(2, c), 0);
            due("distance(" + c + ", 2)", x.distance(c, 2), 0);
        }
        due("distance(1, 0)", x.distance(1, 0), 3);
    }

    @Says(promise = 6, words = "its distances all 0")
    static void addBehindFewerCities() {
        RoundTours x = of("=3:1,2,3;4,5,6;7,8,9;");
        x.drop(2);
        due("add() behind drop(2)", x.add(), 2);
        dueLastAtZero("behind drop(2)", x, 2);
        Typing.read(x, "=3:1,2,3;4,5,6;7,8,9;");
        x.begin(1);
        due("add() behind begin(1)", x.add(), 1);
        dueLastAtZero("behind begin(1)", x, 1);
        Typing.read(x, "=3:1,2,3;4,5,6;7,8,9;");
        Typing.read(x, "=1:5;");
        due("add() behind a text of one city", x.add(), 1);
        dueLastAtZero("behind a text of one city", x, 1);
    }

    private static void dueLastAtZero(String behind, RoundTours x, int last) {
        for (int c = 0; c <= last; c++) {
            due("distance(" + last + ", " + c + ") " + behind, x.distance(last, c), 0);
            due("distance(" + c + ", " + last + ") " + behind, x.distance(c, last), 0);
        }
    }

    @Says(promise = 6, words = "ROOM (there are 20).")
    static void addRefused() {
        RoundTours x = new RoundTours();
        x.begin(19);
        due("add() to 19", x.add(), 19);
        x.build(0, 0);
        x.bound(1, 5);
        due("add() to 20", x.add(), ROOM);
        due("add() to 20 again", x.add(), ROOM);
        due("cities()", x.cities(), MOST_CITIES);
        due("hung(19)", x.hung(19), 0);
        due("length()", x.length(), 0);
        // City 1 has 18 edges in the tree of the others, and one to city 0.
        due("penalty(1)", x.penalty(1), 5 * 17);
        due("drop(19)", x.drop(19), 19);
        due("add() to 19 again", x.add(), 19);
    }

    @Says(promise = 7, words = "A city is taken away: how many there are.")
    static void dropDownToTwo() {
        RoundTours x = new RoundTours();
        x.begin(MOST_CITIES);
        for (int left = 19; left > 0; left--) {
            due("drop(" + left + ")", x.drop(left), left);
            due("cities()", x.cities(), left);
            due("distance of the one taken away", x.distance(left, 0), UNKNOWN);
        }
    }

    @Says(promise = 7, words = "A city taken away: those above it get numbers one less.")
    static void dropFirstMiddleAndLast() {
        dueRest(0, "=2:22,23;32,33;");
        dueRest(1, "=2:11,13;31,33;");
        dueRest(2, "=2:11,12;21,22;");
    }

    private static void dueRest(int city, String rest) {
        RoundTours x = of("=3:11,12,13;21,22,23;31,32,33;");
        RoundTours want = of(rest);
        due("drop(" + city + ")", x.drop(city), 2);
        for (int a = 0; a < 2; a++) {
            for (int b = 0; b < 2; b++) {
                due("distance(" + a + ", " + b + ") behind drop(" + city + ")", x.distance(a, b),
                        want.distance(a, b));
            }
        }
        due("distance(2, 2)", x.distance(2, 2), UNKNOWN);
    }

    @Says(promise = 7, words = "UNKNOWN,")
    static void dropOfNoCity() {
        RoundTours x = allMade();
        for (int city : noCities(4)) {
            due("drop(" + city + ")", x.drop(city), UNKNOWN);
            dueAllStays("behind drop(" + city + "):", x);
        }
        due("drop(1) of one city", new RoundTours().drop(1), UNKNOWN);
        due("drop(-1) of one city", new RoundTours().drop(-1), UNKNOWN);
    }

    @Says(promise = 7, words = "STATE (it is the only one).")
    static void dropOfTheOnlyCity() {
        RoundTours x = of("=1:7;");
        due("drop(0)", x.drop(0), STATE);
        due("cities()", x.cities(), 1);
        due("distance(0, 0)", x.distance(0, 0), 7);
        x = new RoundTours();
        x.build(0, 0);
        due("drop(0) with a tour", x.drop(0), STATE);
        due("length() behind it", x.length(), 0);
        due("hung(0) behind it", x.hung(0), NONE);
        x.add();
        due("drop(0) of two", x.drop(0), 1);
    }

    @Says(promise = 8, words = "The distance from a to b becomes d")
    static void setOneWay() {
        RoundTours x = of("=2:1,2;3,4;");
        due("set(0, 1, 9, false)", x.set(0, 1, 9, false), 2);
        due("distance(0, 1)", x.distance(0, 1), 9);
        due("distance(1, 0)", x.distance(1, 0), 3);
        due("distance(0, 0)", x.distance(0, 0), 1);
        due("distance(1, 1)", x.distance(1, 1), 4);
    }

    @Says(promise = 8, words = "(and, if both, that from b to a):")
    static void setBothWays() {
        RoundTours x = of("=2:1,2;3,4;");
        due("set(0, 1, 9, true)", x.set(0, 1, 9, true), 2);
        due("distance(0, 1)", x.distance(0, 1), 9);
        due("distance(1, 0)", x.distance(1, 0), 9);
        due("set(1, 1, 8, true)", x.set(1, 1, 8, true), 4);
        due("distance(1, 1)", x.distance(1, 1), 8);
    }

    @Says(promise = 8, words = "what it was from a to b.")
    static void setTellsWhatItWas() {
        RoundTours x = of("=2:1,2;3,4;");
        due("set(1, 0, 2147483647, true)", x.set(1, 0, TOP, true), 3);
        due("set(0, 1, 0, true), it was the greatest", x.set(0, 1, 0, true), TOP);
        due("set(0, 1, 0, true), it was 0", x.set(0, 1, 0, true), 0);
    }

    @Says(promise = 8, words = "a DISTANCE, 0 .. 2147483647,")
    static void setTheLeastAndTheGreatest() {
        RoundTours x = new RoundTours();
        x.begin(MOST_CITIES);
        due("set(19, 0, 2147483647, false)", x.set(19, 0, TOP, false), 0);
        due("distance(19, 0)", x.distance(19, 0), TOP);
        due("set(19, 0, 0, false)", x.set(19, 0, 0, false), TOP);
        due("distance(19, 0)", x.distance(19, 0), 0);
    }

    @Says(promise = 8, words = "UNKNOWN,")
    static void setOfNoCity() {
        RoundTours x = allMade();
        for (int city : noCities(4)) {
            due("set(" + city + ", 0, 1, true)", x.set(city, 0, 1, true), UNKNOWN);
            due("set(0, " + city + ", 1, true)", x.set(0, city, 1, true), UNKNOWN);
            due("set(" + city + ", 0, -1, true)", x.set(city, 0, -1, true), UNKNOWN);
            dueAllStays("behind set of " + city + ":", x);
        }
    }

    @Says(promise = 8, words = "OUTSIDE (d below 0).")
    static void setBelowNothing() {
        RoundTours x = allMade();
        for (int d : new int[] {-1, -2, BOTTOM}) {
            due("set(1, 2, " + d + ", true)", x.set(1, 2, d, true), OUTSIDE);
            due("set(1, 1, " + d + ", false)", x.set(1, 1, d, false), OUTSIDE);
            dueAllStays("behind set to " + d + ":", x);
        }
    }

    @Says(promise = 9, words = "The distance from a to b.")
    static void distanceOfTheFirstAndTheLast() {
        RoundTours x = of("=3:1,2,3;4,5,6;7,8,9;");
        due("distance(0, 0)", x.distance(0, 0), 1);
        due("distance(0, 2)", x.distance(0, 2), 3);
        due("distance(2, 0)", x.distance(2, 0), 7);
        due("distance(2, 2)", x.distance(2, 2), 9);
    }

    @Says(promise = 9, words = "20. From each city to each (also to itself) there is ")
    static void distanceToItself() {
        RoundTours x = new RoundTours();
        x.begin(MOST_CITIES);
        for (int c = 0; c < MOST_CITIES; c++) {
            due("set(c, c, c + 1, false)", x.set(c, c, c + 1, false), 0);
        }
        for (int c = 0; c < MOST_CITIES; c++) {
            due("distance(" + c + ", " + c + ")", x.distance(c, c), c + 1);
        }
    }

    @Says(promise = 9, words = "from a to b and from b to a told by themselves.")
    static void distanceOfBothWays() {
        RoundTours x = new RoundTours();
        x.begin(2);
        x.set(0, 1, TOP, false);
        due("distance(0, 1)", x.distance(0, 1), TOP);
        due("distance(1, 0)", x.distance(1, 0), 0);
    }

    @Says(promise = 9, words = "UNKNOWN.")
    static void distanceOfNoCity() {
        RoundTours x = of("=2:1,2;3,4;");
        for (int city : noCities(2)) {
            due("distance(" + city + ", 0)", x.distance(city, 0), UNKNOWN);
            due("distance(0, " + city + ")", x.distance(0, city), UNKNOWN);
            due("distance(" + city + ", " + city + ")", x.distance(city, city), UNKNOWN);
        }
        x.begin(MOST_CITIES);
        due("distance(19, 20)", x.distance(19, MOST_CITIES), UNKNOWN);
    }

    @Says(promise = 10, words = "How many cities there are.")
    static void citiesAreCounted() {
        RoundTours x = new RoundTours();
        due("cities()", x.cities(), 1);
        x.drop(0);
        due("cities() behind a refused drop", x.cities(), 1);
        x.begin(MOST_CITIES);
        due("cities()", x.cities(), MOST_CITIES);
        x.add();
        due("cities() behind a refused add", x.cities(), MOST_CITIES);
        x.begin(21);
        due("cities() behind a refused begin", x.cities(), MOST_CITIES);
        Typing.read(x, "=2:");
        due("cities() behind a fault", x.cities(), MOST_CITIES);
        Typing.read(x, "^1:");
        due("cities() behind a text", x.cities(), 1);
    }
}
