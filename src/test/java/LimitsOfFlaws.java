/** Flaws of the matrix, and what is gone when it changes. */
final class LimitsOfFlaws extends Limits {
    private static void dueFlaw(String text, int kind, int a, int b, int c) {
        RoundTours x = of(text);
        due("flaw(0) of " + text, x.flaw(0), kind);
        due("flaw(1) of " + text, x.flaw(1), a);
        due("flaw(2) of " + text, x.flaw(2), b);
        due("flaw(3) of " + text, x.flaw(3), c);
    }

    @Says(promise = 11, words = "The FLAW: what = 0 its kind (0 for none), 1 a, 2 b, 3 c")
    static void flawOfNoneAndOfAll() {
        due("flaw(0) of a new object", new RoundTours().flaw(0), 0);
        RoundTours x = new RoundTours();
        x.begin(MOST_CITIES);
        due("flaw(0) of twenty cities", x.flaw(0), 0);
        dueFlaw("^3:9,1;1;", 3, 0, 2, 1);
    }

    @Says(promise = 11, words = "The FLAW: what = 0 its kind (0 for none)")
    static void flawIsLookedForAnew() {
        RoundTours x = new RoundTours();
        x.begin(MOST_CITIES);
        due("flaw(0)", x.flaw(0), 0);
        x.set(19, 18, 1, false);
        due("flaw(0) behind set", x.flaw(0), 2);
        due("flaw(2) behind set", x.flaw(2), 19);
        x.drop(19);
        due("flaw(0) behind drop of the last city", x.flaw(0), 0);
        Typing.read(x, "=2:3,0;0,0;");
        due("flaw(0) behind a text", x.flaw(0), 1);
        x.drop(0);
        due("flaw(0) behind drop of the first city", x.flaw(0), 0);
        Typing.read(x, "^2:1;");
        due("flaw(0) behind another text", x.flaw(0), 0);
        x.add();
        due("flaw(0) behind add", x.flaw(0), 3);
        due("flaw(2) behind add", x.flaw(2), 2);
        x.begin(3);
        due("flaw(0) behind begin", x.flaw(0), 0);
    }

    @Says(promise = 11, words = "(NONE where it has none, as for b of kind 1).")
    static void flawWithoutCities() {
        dueFlaw("=1:0;", 0, NONE, NONE, NONE);
        dueFlaw("=1:1;", 1, 0, NONE, NONE);
        dueFlaw("=2:0,1;2,0;", 2, 0, 1, NONE);
        // What an earlier flaw had is not told again.
        RoundTours x = of("^3:9,1;1;");
        due("flaw(3)", x.flaw(3), 1);
        x.set(0, 0, 1, false);
        due("flaw(2) of kind 1 behind one of kind 3", x.flaw(2), NONE);
        due("flaw(3) of kind 1 behind one of kind 3", x.flaw(3), NONE);
        x.begin(3);
        due("flaw(1) of none behind one of kind 1", x.flaw(1), NONE);
    }

    @Says(promise = 11, words = "OUTSIDE (what).")
    static void flawRefused() {
        for (int what : new int[] {-1, 4, 5, TOP, BOTTOM}) {
            due("flaw(" + what + ")", new RoundTours().flaw(what), OUTSIDE);
            due("flaw(" + what + ") of a flawed one", of("^3:9,1;1;").flaw(what), OUTSIDE);
        }
    }

    @Says(promise = 11, words = "FLAWS, the first kind that there is,")
    static void flawOfTheFirstKind() {
        dueFlaw("=3:0,9,1;9,0,1;1,1,0;", 3, 0, 2, 1);
        dueFlaw("=3:0,9,1;9,0,1;1,2,0;", 2, 1, 2, NONE);
        dueFlaw("=3:0,9,1;9,0,1;1,2,5;", 1, 2, NONE, NONE);
    }

    @Says(promise = 11, words = "of it the first one in order of the least a, then b, then c:")
    static void flawOfTheFirstCities() {
        dueFlaw("=3:0,0,0;0,5,0;0,0,1;", 1, 1, NONE, NONE);
        dueFlaw("=3:0,1,1;2,0,1;2,2,0;", 2, 0, 1, NONE);
        dueFlaw("=3:0,1,1;1,0,1;2,2,0;", 2, 0, 2, NONE);
        // From 1 by 0 to 2 is one of two ways; from 2 by 0 to 1 is the other, and comes later.
        dueFlaw("^3:1,1;9;", 3, 1, 0, 2);
        // The way by 1 to 3 comes before that by 2 to 1 or to 3.
        dueFlaw("^4:3,1,9;1,5;4;", 3, 0, 1, 3);
        // By 1 both 2 and 3 are nearer: the least c is 2.
        dueFlaw("^4:1,5,5;1,1;1;", 3, 0, 1, 2);
    }

    @Says(promise = 11, words = "1 the distance from a to a is not 0;")
    static void flawToItself() {
        dueFlaw("=1:1;", 1, 0, NONE, NONE);
        dueFlaw("=1:2147483647;", 1, 0, NONE, NONE);
        RoundTours x = new RoundTours();
        x.begin(MOST_CITIES);
        x.set(19, 19, 1, false);
        due("flaw(0)", x.flaw(0), 1);
        due("flaw(1)", x.flaw(1), 19);
    }

    @Says(promise = 11, words = "2 those from a to b and from b to a differ (a below b);")
    static void flawOfBothWays() {
        dueFlaw("=2:0,1;0,0;", 2, 0, 1, NONE);
        dueFlaw("=2:0,0;1,0;", 2, 0, 1, NONE);
        dueFlaw("=2:0,2147483647;2147483646,0;", 2, 0, 1, NONE);
        dueFlaw("=2:0,2147483647;2147483647,0;", 0, NONE, NONE, NONE);
        RoundTours x = new RoundTours();
        x.begin(MOST_CITIES);
        x.set(19, 18, 1, false);
        due("flaw(0)", x.flaw(0), 2);
        due("flaw(1)", x.flaw(1), 18);
        due("flaw(2)", x.flaw(2), 19);
    }

    @Says(promise = 11, words = "3 that from a to c is above that from a to b and from b to c together.")
    static void flawOfAWayRound() {
        dueFlaw("^3:2,5;3;", 0, NONE, NONE, NONE);
        dueFlaw("^3:2,6;3;", 3, 0, 1, 2);
        dueFlaw("^3:0,0;0;", 0, NONE, NONE, NONE);
        dueFlaw("^3:0,1;0;", 3, 0, 1, 2);
        RoundTours x = of(allAlike(MOST_CITIES, 2));
        due("flaw(0)", x.flaw(0), 0);
        x.set(18, 19, 4, true);
        due("flaw(0) as far as round", x.flaw(0), 0);
        x.set(18, 19, 5, true);
        due("flaw(0) farther than round", x.flaw(0), 3);
        due("flaw(1)", x.flaw(1), 18);
        due("flaw(2)", x.flaw(2), 0);
        due("flaw(3)", x.flaw(3), 19);
    }

    @Says(promise = 11, words = "All sums of distances are reckoned in 64 bits.")
    static void flawOfFarCities() {
        dueFlaw("^3:2147483647,2147483647;2147483647;", 0, NONE, NONE, NONE);
        dueFlaw("^3:1073741824,2147483647;1073741824;", 0, NONE, NONE, NONE);
        dueFlaw("^3:1073741823,2147483647;1073741823;", 3, 0, 1, 2);
        dueFlaw("^3:2147483647,2147483647;0;", 0, NONE, NONE, NONE);
    }

    @Says(promise = 12, words = "SOUND is a matrix without a flaw.")
    static void soundOrNot() {
        for (String text : FLAWED) {
            RoundTours x = of(text);
            due("tree() of " + text, x.tree(), STATE);
        }
        due("tree() just as far as round", of("^3:2,5;3;").tree(), 5);
        due("tree() of one city", new RoundTours().tree(), 0);
        RoundTours x = of("=2:0,1;2,0;");
        due("tree()", x.tree(), STATE);
        x.set(1, 0, 1, false);
        due("tree() when it is mended", x.tree(), 1);
        x.set(1, 1, 1, false);
        due("tree() when it is spoilt", x.tree(), STATE);
        dueNothingMade("behind a refused tree():", x);
    }

    @Says(promise = 8, words = "What is made of a matrix")
    static void goneBehindSet() {
        RoundTours x = allMade();
        x.set(1, 2, 3, true);
        dueNothingMade("behind set both ways:", x);
        x = allMade();
        x.set(1, 2, 3, false);
        dueNothingMade("behind set one way:", x);
        x = allMade();
        x.set(3, 3, 1, false);
        dueNothingMade("behind set to itself:", x);
    }

    @Says(promise = 2, words = "is gone when a call has changed it,")
    static void goneBehindBegin() {
        RoundTours x = allMade();
        x.begin(1);
        dueNothingMade("behind begin(1):", x);
        x = allMade();
        x.begin(4);
        dueNothingMade("behind begin(4):", x);
    }

    @Says(promise = 5, words = "is gone when a call has changed it,")
    static void goneBehindRead() {
        RoundTours x = allMade();
        Typing.read(x, "^4:2,2,2;1,1;1;");
        dueNothingMade("behind read():", x);
    }

    @Says(promise = 6, words = "is gone when a call has changed it,")
    static void goneBehindAdd() {
        RoundTours x = allMade();
        x.add();
        dueNothingMade("behind add():", x);
        due("place(4)", x.place(4), STATE);
    }

    @Says(promise = 7, words = "is gone when a call has changed it,")
    static void goneBehindDrop() {
        for (int city = 0; city < 4; city++) {
            RoundTours x = allMade();
            x.drop(city);
            dueNothingMade("behind drop(" + city + "):", x);
        }
    }

    @Says(promise = 8, words = "or told a distance that it had already.")
    static void goneBehindSetOfWhatItWas() {
        RoundTours x = allMade();
        due("set(1, 2, 1, true)", x.set(1, 2, 1, true), 1);
        dueNothingMade("behind set both ways:", x);
        x = allMade();
        due("set(1, 2, 1, false)", x.set(1, 2, 1, false), 1);
        dueNothingMade("behind set one way:", x);
        x = allMade();
        due("set(0, 0, 0, false)", x.set(0, 0, 0, false), 0);
        dueNothingMade("behind set to itself:", x);
    }

    @Says(promise = 2, words = "or told a distance that it had already.")
    static void goneBehindBeginOfWhatItWas() {
        RoundTours x = new RoundTours();
        x.build(0, 0);
        x.begin(1);
        dueNothingMade("behind begin(1) of a new object:", x);
        x.begin(3);
        x.build(0, 0);
        x.begin(3);
        dueNothingMade("behind begin(3) again:", x);
    }

    @Says(promise = 5, words = "or told a distance that it had already.")
    static void goneBehindReadOfWhatItWas() {
        RoundTours x = allMade();
        due("read()", Typing.read(x, MADE), 4);
        dueNothingMade("behind the same text:", x);
        x = new RoundTours();
        x.build(0, 0);
        due("read()", Typing.read(x, "^1:"), 1);
        dueNothingMade("behind a text without numbers:", x);
    }

    @Says(promise = 28, words = "(all but penalties below; these are all 0 then, too)")
    static void penaltiesGoneWithTheMatrix() {
        RoundTours x = allMade();
        x.begin(4);
        duePenalties(x, 0, 0, 0, 0);
        x = allMade();
        Typing.read(x, MADE);
        duePenalties(x, 0, 0, 0, 0);
        x = allMade();
        x.add();
        duePenalties(x, 0, 0, 0, 0, 0);
        x = allMade();
        x.drop(0);
        duePenalties(x, 0, 0, 0);
        x.add();
        duePenalties(x, 0, 0, 0, 0);
        x = allMade();
        x.set(1, 2, 1, false);
        duePenalties(x, 0, 0, 0, 0);
    }
}
