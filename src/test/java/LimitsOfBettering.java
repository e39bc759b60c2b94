/** Tours bettered by turns and moves. The longer cases were found and checked with Model. */
final class LimitsOfBettering extends Limits {
    private static final int TURNS = 0, MOVES = 1, BOTH = 2;

    /** No turn makes 0 1 2 3 .. shorter, but the turn of places 1, 3 (as 10 + 15 becomes 10 + 10). */
    private static final String TURN_AT_THE_END = "^4:10,10,15;10,10;10;";

    private static RoundTours built(String text, int rule, int city, int... stops) {
        RoundTours x = of(text);
        x.build(rule, city);
        dueStops(x, stops);
        return x;
    }

    private static void dueOnce(RoundTours x, int kind, long length, int... stops) {
        due("better(" + kind + ", 1)", x.better(kind, 1), 1);
        due("length()", x.length(), length);
        dueStops(x, stops);
    }

    private static void dueNever(RoundTours x, int kind, int... stops) {
        due("better(" + kind + ", 300)", x.better(kind, 300), 0);
        dueStops(x, stops);
    }

    @Says(promise = 25, words = "The tour is BETTERED by turns (kind 0), moves (1),")
    static void betterByTurnsOrByMoves() {
        RoundTours x = built(TURN_AT_THE_END, 1, 0, 0, 1, 2, 3);
        dueOnce(x, TURNS, 40, 0, 1, 3, 2);
        x = built(TURN_AT_THE_END, 1, 0, 0, 1, 2, 3);
        dueOnce(x, MOVES, 40, 0, 2, 3, 1);
        // Here only a move goes.
        x = built("^5:4,5,5,4;4,5,6;7,6;4;", 1, 0, 0, 1, 2, 4, 3);
        dueNever(x, TURNS, 0, 1, 2, 4, 3);
        dueOnce(x, MOVES, 22, 0, 4, 3, 1, 2);
    }

    @Says(promise = 25, words = "or by turns, and if there is none by moves (2),")
    static void betterByTurnsBeforeMoves() {
        RoundTours x = built(TURN_AT_THE_END, 1, 0, 0, 1, 2, 3);
        dueOnce(x, BOTH, 40, 0, 1, 3, 2);
        x = built("^5:4,5,5,4;4,5,6;7,6;4;", 1, 0, 0, 1, 2, 4, 3);
        dueOnce(x, BOTH, 22, 0, 4, 3, 1, 2);
        // No turn, so a move; then there is a turn, which comes before the move to 0 5 1 4 2 3.
        x = built("^6:7,7,4,5,4;8,8,6,4;5,4,5;8,5;8;", 2, 4, 0, 1, 5, 3, 2, 4);
        dueNever(x, TURNS, 0, 1, 5, 3, 2, 4);
        dueOnce(x, BOTH, 29, 0, 3, 2, 5, 1, 4);
        dueOnce(x, BOTH, 27, 0, 3, 2, 4, 1, 5);
        dueNever(x, BOTH, 0, 3, 2, 4, 1, 5);
    }

    @Says(promise = 25, words = "as often as it goes,")
    static void betterUntilNothingGoes() {
        RoundTours x = built("^5:4,4,8,8;4,5,4;6,4;7;", 1, 0, 0, 1, 2, 4, 3);
        due("better(0, 300)", x.better(TURNS, 300), 3);
        dueStops(x, 0, 2, 4, 3, 1);
        due("better(0, 300) again", x.better(TURNS, 300), 0);
        RoundTours one = new RoundTours();
        one.build(0, 0);
        RoundTours two = built("^2:7;", 0, 0, 0, 1);
        RoundTours three = built("^3:3,4;5;", 0, 0, 0, 1, 2);
        for (int kind = 0; kind <= 2; kind++) {
            due("better(" + kind + ", 300) of one city", one.better(kind, 300), 0);
            dueNever(two, kind, 0, 1);
            dueNever(three, kind, 0, 1, 2);
        }
    }

    @Says(promise = 25, words = "most times at most: how often.")
    static void betterNotMoreThanTold() {
        RoundTours x = built("^5:4,4,8,8;4,5,4;6,4;7;", 1, 0, 0, 1, 2, 4, 3);
        due("better(0, 1)", x.better(TURNS, 1), 1);
        dueStops(x, 0, 1, 4, 2, 3);
        x = built("^5:4,4,8,8;4,5,4;6,4;7;", 1, 0, 0, 1, 2, 4, 3);
        due("better(0, 2)", x.better(TURNS, 2), 2);
        dueStops(x, 0, 2, 4, 1, 3);
        due("better(0, 2) again", x.better(TURNS, 2), 1);
        dueStops(x, 0, 2, 4, 3, 1);
    }

    @Says(promise = 25, words = "OUTSIDE (kind 0 .. 2,")
    static void betterByNoKind() {
        RoundTours x = built(TURN_AT_THE_END, 1, 0, 0, 1, 2, 3);
        for (int kind : new int[] {-1, 3, 4, TOP, BOTTOM}) {
            due("better(" + kind + ", 1)", x.better(kind, 1), OUTSIDE);
            dueStops(x, 0, 1, 2, 3);
            due("better(" + kind + ", 1) without a tour", new RoundTours().better(kind, 1), OUTSIDE);
        }
    }

    @Says(promise = 25, words = "most 1 .. 300),")
    static void betterTooSeldomOrTooOften() {
        RoundTours x = built(TURN_AT_THE_END, 1, 0, 0, 1, 2, 3);
        for (int most : new int[] {0, -1, 301, 302, TOP, BOTTOM}) {
            for (int kind = 0; kind <= 2; kind++) {
                due("better(" + kind + ", " + most + ")", x.better(kind, most), OUTSIDE);
            }
            dueStops(x, 0, 1, 2, 3);
            due("better(0, " + most + ") without a tour", new RoundTours().better(0, most), OUTSIDE);
        }
        due("better(0, 1)", x.better(TURNS, 1), 1);
        x = built(TURN_AT_THE_END, 1, 0, 0, 1, 2, 3);
        due("better(0, 300)", x.better(TURNS, 300), 1);
    }

    @Says(promise = 25, words = "STATE (there is no tour).")
    static void betterWithoutATour() {
        RoundTours x = of(LINE);
        x.round();
        for (int kind = 0; kind <= 2; kind++) {
            due("better(" + kind + ", 300)", x.better(kind, 300), STATE);
        }
        due("length() behind it", x.length(), STATE);
    }

    @Says(promise = 25, words = "TURNS, of places i below j (0 .. n - 1) of a tour: the cities at i + 1 .. j come "
            + "the other way round.")
    static void turnsAtBothEnds() {
        // Places 0 and 2 of 5, 4, 7, 0 on a line: 1 2 comes the other way round.
        RoundTours x = built("+4:5,0;4,0;7,0;0,0;", 1, 0, 0, 1, 2, 3);
        dueOnce(x, TURNS, 14, 0, 2, 1, 3);
        // Places 1 and 3, the last one: the way from there back to 0 counts.
        x = built(TURN_AT_THE_END, 1, 0, 0, 1, 2, 3);
        dueOnce(x, TURNS, 40, 0, 1, 3, 2);
    }

    @Says(promise = 25, words = "MOVES: k cities (1, 2, 3) at places i .. i + k - 1, i 1 or more, are taken out")
    static void movesOfOneToThree() {
        // One, two and three cities at the first places that there are
        dueOnce(built(TURN_AT_THE_END, 1, 0, 0, 1, 2, 3), MOVES, 40, 0, 2, 3, 1);
        dueOnce(built("^6:5,4,4,5,4;5,4,5,4;4,4,4;5,5;4;", 2, 0, 0, 1, 3, 2, 4, 5), MOVES, 24, 0, 2, 4, 5, 1, 3);
        dueOnce(built("^7:4,8,6,5,7,4;4,7,5,7,8;8,8,7,5;4,6,5;8,6;6;", 2, 2, 0, 5, 3, 4, 1, 2, 6), MOVES, 34,
                0, 1, 2, 6, 5, 3, 4);
        // One, two and three at the last places
        dueOnce(built("^5:6,7,4,5;6,4,4;4,4;6;", 2, 0, 0, 2, 4, 1, 3), MOVES, 22, 0, 3, 2, 4, 1);
        dueOnce(built("^6:5,4,4,4,4;5,4,4,4;4,4,5;5,5;5;", 2, 1, 0, 3, 1, 5, 4, 2), MOVES, 24, 0, 4, 2, 3, 1, 5);
        dueOnce(built("^7:6,4,4,5,4,6;5,5,4,4,6;6,6,4,6;4,6,5;5,4;5;", 2, 2, 0, 2, 6, 3, 4, 1, 5), MOVES, 29,
                0, 2, 5, 1, 4, 6, 3);
        // With four cities 3 6 1 7 it would become 0 5 4 2 7 1 6 3, shorter by 1.
        dueNever(built("^8:5,5,4,6,5,7,5;6,6,8,7,4,5;8,7,8,7,5;7,6,6,5;7,7,6;7,7;8;", 2, 1, 0, 5, 3, 6, 1, 7, 4, 2),
                BOTH, 0, 5, 3, 6, 1, 7, 4, 2);
        // With 0 2 at places 0 and 1 it would become 5 3 2 0 4 1, shorter by 1.
        dueNever(built("^6:4,5,6,4,6;6,6,4,5;4,5,5;5,4;6;", 2, 0, 0, 2, 5, 3, 4, 1), BOTH, 0, 2, 5, 3, 4, 1);
    }

    @Says(promise = 25, words = "and put in behind place p of those left (p from 0 on, the last one too), as they "
            + "are, or the other way round.")
    static void movesToBothEnds() {
        // Behind the first one of those left: one, two, three (these the other way round)
        dueOnce(built("^5:6,7,4,5;6,4,4;4,4;6;", 2, 0, 0, 2, 4, 1, 3), MOVES, 22, 0, 3, 2, 4, 1);
        dueOnce(built("^6:5,4,4,4,4;5,4,4,4;4,4,5;5,5;5;", 2, 1, 0, 3, 1, 5, 4, 2), MOVES, 24, 0, 4, 2, 3, 1, 5);
        dueOnce(built("^7:4,5,4,4,4,5;4,5,4,5,5;5,4,5,5;5,5,5;4,5;4;", 2, 5, 0, 5, 6, 4, 2, 1, 3), MOVES, 29,
                0, 1, 2, 4, 5, 6, 3);
        // Behind the last one of those left: one, two, three as they are
        dueOnce(built(TURN_AT_THE_END, 1, 0, 0, 1, 2, 3), MOVES, 40, 0, 2, 3, 1);
        dueOnce(built("^5:4,5,5,4;4,5,6;7,6;4;", 1, 0, 0, 1, 2, 4, 3), MOVES, 22, 0, 4, 3, 1, 2);
        dueOnce(built("^7:4,8,6,5,7,4;4,7,5,7,8;8,8,7,5;4,6,5;8,6;6;", 2, 2, 0, 5, 3, 4, 1, 2, 6), MOVES, 34,
                0, 1, 2, 6, 5, 3, 4);
    }

    @Says(promise = 25, words = "BETTERED: the first turn (by i, then j),")
    static void firstTurnIsDone() {
        // Places 0, 4; by j before i it would be 1, 3 (0 1 4 2 5 3), the shortest would be by 3, 5.
        RoundTours x = built("^6:4,7,4,6,4;4,6,5,5;7,4,5;4,7;7;", 3, 0, 0, 1, 2, 4, 5, 3);
        dueOnce(x, TURNS, 29, 0, 5, 4, 2, 1, 3);
    }

    @Says(promise = 25, words = "or move (by k, i, p, then as they are first),")
    static void firstMoveIsDone() {
        // One city at 3 behind 3; by p before i it would be 0 3 2 1 4, by i before k 0 4 1 2 3, the
        // shortest would be 0 2 3 1 4.
        RoundTours x = built("^5:6,4,6,4;4,5,4;4,6;5;", 1, 0, 0, 2, 1, 4, 3);
        dueOnce(x, MOVES, 22, 0, 2, 1, 3, 4);
        // Two cities behind the last place: both ways round are shorter.
        x = built("^6:6,5,8,5,6;4,8,8,8;7,7,6;6,4;8;", 2, 5, 0, 1, 2, 4, 3, 5);
        dueOnce(x, MOVES, 32, 0, 4, 3, 5, 1, 2);
        // The other way round at places 1, 2; as they are it goes only further on, to 0 1 2 5 3 4.
        x = built("^6:6,5,8,5,6;4,8,8,8;7,7,6;6,4;8;", 2, 3, 0, 5, 3, 4, 1, 2);
        dueOnce(x, MOVES, 32, 0, 4, 3, 5, 1, 2);
    }

    @Says(promise = 25, words = "with which the tour gets shorter is done;")
    static void asLongIsNotShorter() {
        for (int n = 1; n <= MOST_CITIES; n += 19) {
            RoundTours x = of(allAlike(n, 5));
            x.build(1, 0);
            for (int kind = 0; kind <= 2; kind++) {
                due("better(" + kind + ", 300) of " + n + " cities, all alike", x.better(kind, 300), 0);
            }
            due("stop(" + (n - 1) + ")", x.stop(n - 1), n - 1);
        }
    }

    @Says(promise = 25, words = "then again from the first on.")
    static void againFromTheFirst() {
        // Places 1, 3, then 0, 3; those behind 1, 3 would make it 0 1 4 3 2.
        RoundTours x = built("^5:4,4,8,8;4,5,4;6,4;7;", 1, 0, 0, 1, 2, 4, 3);
        due("better(0, 2)", x.better(TURNS, 2), 2);
        dueStops(x, 0, 2, 4, 1, 3);
        // One city at 2 behind 2, then one at 1 behind 3; further on there would be 0 1 4 2 3.
        x = built("^5:4,5,4,5;4,4,4;4,4;5;", 1, 0, 0, 1, 2, 3, 4);
        due("better(1, 2)", x.better(MOVES, 2), 2);
        dueStops(x, 0, 3, 2, 4, 1);
    }

    @Says(promise = 25, words = "All sums of distances are reckoned in 64 bits.")
    static void sumsOfFarCities() {
        // 1000000000 + 1500000000 becomes 1000000000 + 1000000000, which alone goes into 32 bits.
        String shorter = "^4:1000000000,1000000000,1500000000;1000000000,1000000000;1000000000;";
        dueOnce(built(shorter, 1, 0, 0, 1, 2, 3), TURNS, 4000000000L, 0, 1, 3, 2);
        dueOnce(built(shorter, 1, 0, 0, 1, 2, 3), MOVES, 4000000000L, 0, 2, 3, 1);
        // And here it would be the other way round.
        String longer = "^4:1000000000,1500000000,1000000000;1000000000,1000000000;1000000000;";
        dueNever(built(longer, 1, 0, 0, 1, 2, 3), TURNS, 0, 1, 2, 3);
        dueNever(built(longer, 1, 0, 0, 1, 2, 3), MOVES, 0, 1, 2, 3);
        // 2 taken out saves 2200000000, and costs 1800000000 behind 1.
        String dear = "^4:2100000000,1900000000,1400000000;2000000000,1300000000;1700000000;";
        dueOnce(built(dear, 0, 0, 0, 2, 3, 1), MOVES, 6600000000L, 0, 3, 1, 2);
    }
}
