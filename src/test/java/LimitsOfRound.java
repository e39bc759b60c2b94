/** The round over the tree and the matching. */
final class LimitsOfRound extends Limits {
    @Says(promise = 19, words = "THE ROUND is made (and what it wants): how many edges and pairs it goes over.")
    static void roundMakesTreeAndMatching() {
        RoundTours x = of(LINE);
        due("round()", x.round(), 4);
        dueHung(x, NONE, 0, 1, 2);
        duePartners(x, 3, NONE, NONE, 0);
        due("round() again", x.round(), 4);
        due("round() of one city", new RoundTours().round(), 0);
        x.begin(MOST_CITIES);
        due("round() of twenty", x.round(), 29);
    }

    @Says(promise = 19, words = "STATE (not SOUND).")
    static void roundRefused() {
        for (String text : FLAWED) {
            RoundTours x = of(text);
            due("round() of " + text, x.round(), STATE);
            dueNothingMade("behind it:", x);
        }
    }

    @Says(promise = 19, words = "It goes once over each edge of the tree and each pair of the matching")
    static void roundGoesOnceOverAll() {
        // Edges 0 - 1, 1 - 2, 1 - 3, pairs 0 - 2, 1 - 3.
        RoundTours x = of(MADE);
        due("round()", x.round(), 5);
        dueCorners(x, 0, 1, 3, 1, 2, 0);
    }

    @Says(promise = 19, words = "(two cities may have both).")
    static void roundOfTwoCities() {
        RoundTours x = of("^2:7;");
        due("round()", x.round(), 2);
        dueCorners(x, 0, 1, 0);
    }

    @Says(promise = 20, words = "A ROW has city 0 at first; again and again: if edges or pairs at its last city "
            + "were not gone over, one to the least city is, and this comes behind the row;")
    static void roundGoesToTheLeastCity() {
        // A star round 0 with the pairs 0 - 1, 2 - 3.
        RoundTours x = new RoundTours();
        x.begin(4);
        due("round()", x.round(), 5);
        dueCorners(x, 0, 1, 0, 2, 3, 0);
        // A star round 0 with the pair 1 - 2 alone: 1 is gone to first.
        x.begin(3);
        due("round()", x.round(), 3);
        dueCorners(x, 0, 1, 2, 0);
    }

    @Says(promise = 20, words = "otherwise its last city leaves it, and comes to the front of THE ROUND; "
            + "until the row is empty.")
    static void roundTurnsBackInTheRow() {
        // A star round 1 with the pairs 0 - 1, 2 - 3: the row is back at 0 before it has gone over all.
        RoundTours x = of("^4:1,2,2;1,1;2;");
        due("round()", x.round(), 5);
        dueCorners(x, 0, 1, 2, 3, 1, 0);
        x = new RoundTours();
        x.round();
        dueCorners(x, 0);
    }

    @Says(promise = 20, words = "The i-th city of the round (0 the first one; at last city 0 again);")
    static void cornerFirstAndLast() {
        RoundTours x = of(LINE);
        x.round();
        dueCorners(x, 0, 1, 2, 3, 0);
        x.begin(MOST_CITIES);
        x.round();
        due("corner(0) of the longest", x.corner(0), 0);
        due("corner(1) of the longest", x.corner(1), 1);
        due("corner(28) of the longest", x.corner(28), 19);
        due("corner(29) of the longest", x.corner(29), 0);
        x.begin(1);
        x.round();
        due("corner(0) of one city", x.corner(0), 0);
    }

    @Says(promise = 20, words = "NONE.")
    static void cornerBeforeTheFirstAndBehindTheLast() {
        RoundTours x = new RoundTours();
        x.begin(MOST_CITIES);
        x.round();
        for (int i : new int[] {-1, 30, 31, 39, 40, TOP, BOTTOM}) {
            due("corner(" + i + ") of the longest", x.corner(i), NONE);
        }
        x.begin(1);
        x.round();
        due("corner(1) of one city", x.corner(1), NONE);
        due("corner(-1) of one city", x.corner(-1), NONE);
    }

    @Says(promise = 20, words = "STATE (there is no round).")
    static void cornerWithoutARound() {
        RoundTours x = of(LINE);
        x.match();
        for (int i : new int[] {-1, 0, 5, TOP, BOTTOM}) {
            due("corner(" + i + ") with a matching alone", x.corner(i), STATE);
        }
        x.build(3, 0);
        due("corner(0) with a tour alone", x.corner(0), STATE);
    }
}
