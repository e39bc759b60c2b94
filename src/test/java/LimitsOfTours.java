/** Tours by the four rules, the least tour, and what is asked of tours. */
final class LimitsOfTours extends Limits {
    @Says(promise = 21, words = "A TOUR is BUILT by a rule 0 .. 3, from a city on")
    static void buildByTheFirstAndTheLastRule() {
        for (int rule = 0; rule <= 3; rule++) {
            due("build(" + rule + ", 0) of one city", new RoundTours().build(rule, 0), 0);
            RoundTours x = of("^2:7;");
            due("build(" + rule + ", 1) of two cities", x.build(rule, 1), 14);
            dueStops(x, 0, 1);
            x.begin(MOST_CITIES);
            due("build(" + rule + ", 19) of twenty", x.build(rule, 19), 0);
            due("stop(0)", x.stop(0), 0);
            due("stop(19)", x.stop(19) > 0 ? 1 : 0, 1);
        }
    }

    @Says(promise = 21, words = "(rules 1 and 2; others don't look at it),")
    static void buildByRulesThatDoNotLook() {
        RoundTours x = of(LINE);
        for (int city : noCities(4)) {
            due("build(0, " + city + ")", x.build(0, city), 12);
            dueStops(x, 0, 1, 2, 3);
            due("build(3, " + city + ")", x.build(3, city), 12);
            dueStops(x, 0, 1, 2, 3);
        }
        due("build(0, 2)", x.build(0, 2), 12);
        dueStops(x, 0, 1, 2, 3);
    }

    @Says(promise = 21, words = "in place of the one before: its length.")
    static void buildInPlaceOfTheOneBefore() {
        RoundTours x = of("+4:5,0;4,0;7,0;0,0;");
        due("build(1, 0)", x.build(1, 0), 16);
        dueStops(x, 0, 1, 2, 3);
        due("build(1, 3)", x.build(1, 3), 14);
        dueStops(x, 0, 2, 3, 1);
        due("length()", x.length(), 14);
    }

    @Says(promise = 21, words = "OUTSIDE (rule),")
    static void buildByNoRule() {
        RoundTours x = allMade();
        for (int rule : new int[] {-1, 4, 5, TOP, BOTTOM}) {
            due("build(" + rule + ", 0)", x.build(rule, 0), OUTSIDE);
            due("build(" + rule + ", 9)", x.build(rule, 9), OUTSIDE);
            dueAllStays("behind build(" + rule + ", ..):", x);
            due("build(" + rule + ", 0), not sound", of(FLAWED[0]).build(rule, 0), OUTSIDE);
        }
    }

    @Says(promise = 21, words = "UNKNOWN (the city, for rules 1, 2),")
    static void buildFromNoCity() {
        RoundTours x = allMade();
        for (int city : noCities(4)) {
            due("build(1, " + city + ")", x.build(1, city), UNKNOWN);
            due("build(2, " + city + ")", x.build(2, city), UNKNOWN);
            dueAllStays("behind build from " + city + ":", x);
        }
        due("build(1, 2), not sound", of(FLAWED[0]).build(1, 2), UNKNOWN);
        due("build(2, -1), not sound", of(FLAWED[0]).build(2, -1), UNKNOWN);
    }

    @Says(promise = 21, words = "STATE (not SOUND).")
    static void buildRefused() {
        for (String text : FLAWED) {
            for (int rule = 0; rule <= 3; rule++) {
                RoundTours x = of(text);
                due("build(" + rule + ", 0) of " + text, x.build(rule, 0), STATE);
                dueNothingMade("behind it:", x);
            }
        }
    }

    @Says(promise = 21, words = "(Rule 0 makes the round, if there is none.)")
    static void buildMakesTheRound() {
        RoundTours x = of(LINE);
        x.build(1, 0);
        x.build(2, 0);
        x.build(3, 0);
        due("corner(0) behind other rules", x.corner(0), STATE);
        x.build(0, 0);
        dueCorners(x, 0, 1, 2, 3, 0);
        due("partner(0)", x.partner(0), 3);
        due("hung(3)", x.hung(3), 2);
        due("build(0, 0) again", x.build(0, 0), 12);
        dueCorners(x, 0, 1, 2, 3, 0);
    }

    @Says(promise = 21, words = "All sums of distances are reckoned in 64 bits.")
    static void buildOfFarCities() {
        for (int rule = 0; rule <= 3; rule++) {
            due("build(" + rule + ", 0)", of(allAlike(MOST_CITIES, TOP)).build(rule, 0), 20L * TOP);
        }
        // With 1 the tour of 0 alone grows by 2000000000, with 2 by 3000000000, so 1 comes first.
        RoundTours x = of("^3:1000000000,1500000000;1000000000;");
        due("build(2, 0)", x.build(2, 0), 3500000000L);
        dueStops(x, 0, 2, 1);
    }

    @Says(promise = 21, words = "BUILT by rule 0: the cities as they come first in the round.")
    static void buildCutsTheRoundShort() {
        RoundTours x = of(MADE);
        due("build(0, 0)", x.build(0, 0), 7);
        dueCorners(x, 0, 1, 3, 1, 2, 0);
        dueStops(x, 0, 1, 3, 2);
    }

    @Says(promise = 21, words = "Rule 1, from a city on: again and again the nearest city that was not there "
            + "(of several the least).")
    static void buildByTheNearest() {
        RoundTours x = of(allAlike(5, 3));
        due("build(1, 0), all alike", x.build(1, 0), 15);
        dueStops(x, 0, 1, 2, 3, 4);
        due("build(1, 4), all alike: 4 0 1 2 3", x.build(1, 4), 15);
        dueStops(x, 0, 1, 2, 3, 4);
        due("build(1, 2), all alike: 2 0 1 3 4", x.build(1, 2), 15);
        dueStops(x, 0, 1, 3, 4, 2);
        x = of(LINE);
        due("build(1, 1): 1 0 2 3", x.build(1, 1), 12);
        dueStops(x, 0, 2, 3, 1);
    }

    @Says(promise = 21, words = "Rule 2, from a city on: the tour has that city alone; again and again, of all "
            + "cities that are not in it and all places between two one behind the other in it (behind the last "
            + "one, too), that with which it grows least")
    static void buildBehindTheLast() {
        // 0 1 are apart by 10, 2 lies above and 3 below them: 2 comes between 0 and 1, then 3
        // between 1 and 0 (16; elsewhere 22).
        RoundTours x = of("*4:0,11;10,11;5,21;5,0;");
        due("build(2, 0)", x.build(2, 0), 50);
        dueStops(x, 0, 2, 1, 3);
        // From 1 on: 1 2 0 3.
        due("build(2, 1)", x.build(2, 1), 50);
        dueStops(x, 0, 3, 1, 2);
        // Twenty cities: 2 lies above 0 and 1, all others far below them, and come between 1 and 0.
        StringBuilder many = new StringBuilder("*20:400,400;440,400;420,450;");
        for (int c = 3; c < MOST_CITIES; c++) {
            many.append(40 * c).append(",0;");
        }
        x = of(many.toString());
        due("build(2, 0) of twenty", x.build(2, 0), 1750);
        dueStops(x, 0, 2, 1, 19, 18, 17, 16, 15, 14, 13, 12, 11, 10, 9, 8, 7, 6, 5, 4, 3);
    }

    @Says(promise = 21, words = "(of several the least city, then the place that is nearest behind the city it "
            + "began with) is put in.")
    static void buildPutsInTheLeastOfSeveral() {
        // 2; 2 0; 2 1 0; 2 3 1 0; 2 4 3 1 0
        RoundTours x = of(allAlike(5, 3));
        due("build(2, 2)", x.build(2, 2), 15);
        dueStops(x, 0, 2, 4, 3, 1);
        // 0; 0 1; 0 2 1; 0 3 2 1; 0 4 3 2 1
        due("build(2, 0)", x.build(2, 0), 15);
        dueStops(x, 0, 4, 3, 2, 1);
    }

    @Says(promise = 21, words = "Rule 3: all pairs a below b go by their distance, then a, then b:")
    static void buildByPairsInOrder() {
        // 1 - 2, 0 - 3, 0 - 1 (1 - 3 and 0 - 2 come behind it), then 2 - 3.
        RoundTours x = of("^4:4,5,3;2,5;6;");
        due("build(3, 0)", x.build(3, 0), 15);
        dueStops(x, 0, 1, 2, 3);
        // 2 - 3, then of four alike 0 - 2 before 0 - 3, 1 - 2, 1 - 3; then 1 - 3, and 0 - 1.
        x = of("^4:6,4,4;4,4;3;");
        due("build(3, 0)", x.build(3, 0), 17);
        dueStops(x, 0, 1, 3, 2);
    }

    @Says(promise = 21, words = "a pair is taken if both have fewer than two taken ones and it closes no ring, or "
            + "the ring of all cities with the last pair;")
    static void buildByPairsWithoutRings() {
        // 0 - 1, 0 - 2; not 0 - 3, 0 - 4 (0 has two), not 1 - 2 (a ring of three); 1 - 3; not 1 - 4;
        // not 2 - 3 (a ring of four); 2 - 4; 3 - 4 closes the ring of all.
        RoundTours x = of(allAlike(5, 3));
        due("build(3, 0)", x.build(3, 0), 15);
        dueStops(x, 0, 1, 3, 4, 2);
        // 0 - 2, 1 - 2; not 0 - 1 (a ring of three); 0 - 3, 1 - 3.
        x = of("^4:4,3,5;3,5;5;");
        due("build(3, 0) of four", x.build(3, 0), 16);
        dueStops(x, 0, 2, 1, 3);
        x = of(allAlike(3, 3));
        due("build(3, 0) of three", x.build(3, 0), 9);
        dueStops(x, 0, 1, 2);
        due("build(3, 0) of one", new RoundTours().build(3, 0), 0);
    }

    @Says(promise = 21, words = "the tour goes from 0 to the lesser of its two neighbours (of two cities to the "
            + "other one).")
    static void buildGoesToTheLesserNeighbour() {
        // 0 - 3 is taken before 0 - 1, but the tour goes to 1.
        RoundTours x = of("^4:4,5,3;2,5;6;");
        x.build(3, 0);
        dueStops(x, 0, 1, 2, 3);
        x = of("^2:7;");
        due("build(3, 0) of two", x.build(3, 0), 14);
        dueStops(x, 0, 1);
        x.begin(2);
        due("build(3, 0) of two without a distance", x.build(3, 0), 0);
        dueStops(x, 0, 1);
    }

    @Says(promise = 21, words = "It is told in the way in which it was built: rule 1 and 2 as they began, then "
            + "city 0 is turned to the front.")
    static void buildTurnsToTheFront() {
        RoundTours x = of(LINE);
        due("build(1, 3): 3 2 1 0", x.build(1, 3), 12);
        dueStops(x, 0, 3, 2, 1);
        due("build(1, 2): 2 1 0 3", x.build(1, 2), 12);
        dueStops(x, 0, 3, 2, 1);
        due("build(1, 0): 0 1 2 3", x.build(1, 0), 12);
        dueStops(x, 0, 1, 2, 3);
        // 3; 3 2; 3 1 2; 3 0 1 2
        due("build(2, 3)", x.build(2, 3), 12);
        dueStops(x, 0, 1, 2, 3);
        // 1; 1 0; 1 2 0; 1 3 2 0
        due("build(2, 1)", x.build(2, 1), 12);
        dueStops(x, 0, 1, 3, 2);
    }

    @Says(promise = 22, words = "The i-th city of the tour;")
    static void stopFirstAndLast() {
        RoundTours x = of(LINE);
        x.build(1, 3);
        due("stop(0)", x.stop(0), 0);
        due("stop(3)", x.stop(3), 1);
        x = new RoundTours();
        x.build(0, 0);
        due("stop(0) of one city", x.stop(0), 0);
    }

    @Says(promise = 22, words = "A TOUR goes through all cities once and back to the first; it is told from city 0 on.")
    static void stopsAreAllCities() {
        RoundTours x = new RoundTours();
        x.begin(MOST_CITIES);
        for (int rule = 0; rule <= 3; rule++) {
            x.build(rule, 7);
            due("stop(0) by rule " + rule, x.stop(0), 0);
            int seen = 0;
            for (int i = 0; i < MOST_CITIES; i++) {
                seen |= 1 << x.stop(i);
            }
            due("all stops by rule " + rule, seen, (1 << MOST_CITIES) - 1);
        }
        x = of("^3:3,4;5;");
        due("build(1, 0), back to the first", x.build(1, 0), 3 + 5 + 4);
    }

    @Says(promise = 22, words = "NONE when there is none such,")
    static void stopBeforeTheFirstAndBehindTheLast() {
        RoundTours x = new RoundTours();
        x.begin(MOST_CITIES);
        x.build(0, 0);
        for (int i : new int[] {-1, MOST_CITIES, TOP, BOTTOM}) {
            due("stop(" + i + ") of twenty", x.stop(i), NONE);
        }
        // A shorter tour behind a longer one
        x.begin(2);
        x.build(0, 0);
        for (int i : new int[] {-1, 2, 3, 19, MOST_CITIES, TOP, BOTTOM}) {
            due("stop(" + i + ") of two", x.stop(i), NONE);
        }
    }

    @Says(promise = 22, words = "and without a tour.")
    static void stopWithoutATour() {
        due("stop(0) of a new object", new RoundTours().stop(0), NONE);
        RoundTours x = of(LINE);
        x.round();
        for (int i : new int[] {-1, 0, 1, 3, 4, TOP, BOTTOM}) {
            due("stop(" + i + ") with a round alone", x.stop(i), NONE);
        }
    }

    @Says(promise = 23, words = "The place of a city in the tour.")
    static void placeOfTheFirstAndTheLast() {
        RoundTours x = of(LINE);
        x.build(1, 3);
        due("place(0)", x.place(0), 0);
        due("place(3)", x.place(3), 1);
        due("place(1)", x.place(1), 3);
        x.begin(MOST_CITIES);
        x.build(1, 0);
        due("place(19) of twenty", x.place(19), 19);
        x = new RoundTours();
        x.build(0, 0);
        due("place(0) of one city", x.place(0), 0);
    }

    @Says(promise = 23, words = "UNKNOWN,")
    static void placeOfNoCity() {
        RoundTours x = of(LINE);
        for (int city : noCities(4)) {
            due("place(" + city + ") without a tour", x.place(city), UNKNOWN);
        }
        x.build(0, 0);
        for (int city : noCities(4)) {
            due("place(" + city + ")", x.place(city), UNKNOWN);
        }
    }

    @Says(promise = 23, words = "STATE (there is no tour).")
    static void placeWithoutATour() {
        RoundTours x = of(LINE);
        x.round();
        for (int c = 0; c < 4; c++) {
            due("place(" + c + ")", x.place(c), STATE);
        }
    }

    @Says(promise = 24, words = "How long the tour is.")
    static void lengthOfFewAndFar() {
        RoundTours x = new RoundTours();
        x.build(0, 0);
        due("length() of one city", x.length(), 0);
        x = of("^2:2147483647;");
        x.build(0, 0);
        due("length() of two", x.length(), 4294967294L);
        x = of(allAlike(MOST_CITIES, TOP));
        x.build(0, 0);
        due("length() of twenty", x.length(), 20L * TOP);
        x = of("+4:5,0;4,0;7,0;0,0;");
        x.build(1, 0);
        due("length()", x.length(), 16);
        x.better(0, 1);
        due("length() when it is bettered", x.length(), 14);
    }

    @Says(promise = 24, words = "STATE (there is no tour).")
    static void lengthWithoutATour() {
        due("length() of a new object", new RoundTours().length(), STATE);
        RoundTours x = of(LINE);
        x.round();
        due("length() with a round alone", x.length(), STATE);
        x.build(4, 0);
        x.build(1, 4);
        due("length() behind refused builds", x.length(), STATE);
    }

    @Says(promise = 26, words = "THE LEAST TOUR becomes the tour: its length.")
    static void bestOfFewAndMany() {
        RoundTours x = new RoundTours();
        due("best() of one city", x.best(), 0);
        dueStops(x, 0);
        x = of("^2:9;");
        due("best() of two", x.best(), 18);
        dueStops(x, 0, 1);
        x = of("+4:5,0;4,0;7,0;0,0;");
        due("build(1, 0)", x.build(1, 0), 16);
        due("best()", x.best(), 14);
        dueStops(x, 0, 1, 3, 2);
        due("length()", x.length(), 14);
        // Eleven cities on a line at 0, 5, 10, 4, 9, 3, 8, 2, 7, 1, 6: there and back.
        x = of("+11:0,0;5,0;10,0;4,0;9,0;3,0;8,0;2,0;7,0;1,0;6,0;");
        due("best() of eleven", x.best(), 20);
        due("stop(10)", x.stop(10) > 0 ? 1 : 0, 1);
    }

    @Says(promise = 26, words = "THE LEAST TOUR of all is, of several, the one whose row of cities from 0 on comes "
            + "first (the least at the first place where two differ).")
    static void bestOfSeveral() {
        RoundTours x = of(allAlike(3, 5));
        due("best() of three", x.best(), 15);
        dueStops(x, 0, 1, 2);
        x = of(allAlike(11, 5));
        due("best() of eleven", x.best(), 55);
        dueStops(x, 0, 1, 2, 3, 4, 5, 6, 7, 8, 9, 10);
        // Only 0 1 3 2 and 0 2 3 1 have 8.
        x = of("^4:2,2,3;3,2;2;");
        due("best()", x.best(), 8);
        dueStops(x, 0, 1, 3, 2);
        // Only 0 2 1 3 and 0 3 1 2 have 20: the first place is not for the least city.
        x = of("^4:9,5,5;5,5;9;");
        due("best()", x.best(), 20);
        dueStops(x, 0, 2, 1, 3);
        // Only 0 1 4 2 3 and 0 3 2 4 1 have 20.
        x = of("^5:4,5,4,5;4,4,4;4,4;5;");
        due("best()", x.best(), 20);
        dueStops(x, 0, 1, 4, 2, 3);
    }

    @Says(promise = 26, words = "All sums of distances are reckoned in 64 bits.")
    static void bestOfFarCities() {
        // 0 1 3 2 has 2000000000, the others 2400000000, which does not go into 32 bits.
        RoundTours x = of("^4:500000000,500000000,900000000;500000000,500000000;500000000;");
        due("best()", x.best(), 2000000000L);
        dueStops(x, 0, 1, 3, 2);
        due("best() of eleven", of(allAlike(11, TOP)).best(), 11L * TOP);
    }

    @Says(promise = 26, words = "STATE (not SOUND),")
    static void bestRefused() {
        for (String text : FLAWED) {
            RoundTours x = of(text);
            due("best() of " + text, x.best(), STATE);
            dueNothingMade("behind it:", x);
        }
        RoundTours x = new RoundTours();
        x.begin(12);
        x.set(0, 0, 1, false);
        due("best() of twelve, not sound", x.best(), STATE);
    }

    @Says(promise = 26, words = "ROOM (more than 11 cities).")
    static void bestOfTooMany() {
        RoundTours x = new RoundTours();
        x.begin(11);
        due("best() of eleven", x.best(), 0);
        x.add();
        due("best() of twelve", x.best(), ROOM);
        due("length() behind it", x.length(), STATE);
        x.build(1, 3);
        due("best() of twelve with a tour", x.best(), ROOM);
        dueStops(x, 0, 1, 2, 4, 5, 6, 7, 8, 9, 10, 11, 3);
        x.begin(MOST_CITIES);
        due("best() of twenty", x.best(), ROOM);
    }
}
