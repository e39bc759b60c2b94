/** The matching of the odd cities, and its prices. */
final class LimitsOfMatching extends Limits {
    /** City 0 is near to all; two triples are near among themselves, city 7 is near to 0 alone. */
    private static final String TRIPLES = "^8:10,10,10,10,10,10,10;10,10,20,20,20,20;10,20,20,20,20;"
            + "20,20,20,20;10,10,20;10,20;20;";

    @Says(promise = 16, words = "THE MATCHING is made (and the tree, if there is none): its sum.")
    static void matchMakesTheTree() {
        RoundTours x = of(LINE);
        due("match()", x.match(), 6);
        dueHung(x, NONE, 0, 1, 2);
        due("match() again", x.match(), 6);
        due("tree() behind it", x.tree(), 6);
        due("partner(0) behind tree()", x.partner(0), 3);
        x = new RoundTours();
        due("match() of one city", x.match(), 0);
        due("hung(0) of one city", x.hung(0), NONE);
        due("match() of two cities", of("^2:7;").match(), 7);
    }

    @Says(promise = 16, words = "STATE (not SOUND).")
    static void matchRefused() {
        for (String text : FLAWED) {
            RoundTours x = of(text);
            due("match() of " + text, x.match(), STATE);
            dueNothingMade("behind it:", x);
        }
    }

    @Says(promise = 16, words = "A MATCHING makes pairs of all odd cities.")
    static void matchOfNoneAndOfAll() {
        RoundTours x = new RoundTours();
        x.match();
        duePartners(x, NONE);
        x.begin(2);
        x.match();
        duePartners(x, 1, 0);
        x = of(LINE);
        x.match();
        duePartners(x, 3, NONE, NONE, 0);
        x = of(allAlike(MOST_CITIES, 6));
        due("match() of twenty odd cities", x.match(), 60);
        for (int c = 0; c < MOST_CITIES; c++) {
            due("partner of the partner of " + c, x.partner(x.partner(c)), c);
        }
    }

    @Says(promise = 16, words = "THE MATCHING is the one with the least sum of the distances of its pairs;")
    static void matchIsTheLeast() {
        // A star round 0: the three matchings have 4 + 8, 4 + 6, 4 + 5.
        RoundTours x = of("^4:4,4,4;5,6;8;");
        due("match()", x.match(), 9);
        duePartners(x, 3, 2, 1, 0);
        x = of("^4:4,4,4;8,5;6;");
        due("match()", x.match(), 9);
        duePartners(x, 2, 3, 0, 1);
        // The nearest pair alone is not the least: 0 - 1 for 4 would leave 2 - 3 for 8.
        x = of("^4:4,5,5;5,5;8;");
        due("match()", x.match(), 10);
        duePartners(x, 2, 3, 0, 1);
    }

    @Says(promise = 16, words = "of several the one in which the least odd city has the least partner,")
    static void matchOfSeveral() {
        RoundTours x = of("^4:4,4,4;5,5;5;");
        due("match(), three alike", x.match(), 9);
        duePartners(x, 1, 0, 3, 2);
        x = of("^4:4,4,4;5,5;6;");
        due("match(), the last two alike", x.match(), 9);
        duePartners(x, 2, 3, 0, 1);
    }

    @Says(promise = 16, words = "of these the one in which the least odd city that is in no pair yet has the "
            + "least partner, and so on.")
    static void matchOfSeveralFurtherOn() {
        // 0 with 1 leaves 2 3 4 5, in which 2 - 4, 3 - 5 and 2 - 5, 3 - 4 cost the same.
        RoundTours x = of("^6:4,4,4,4,4;7,7,7,7;7,5,5;5,5;7;");
        due("match()", x.match(), 14);
        duePartners(x, 1, 0, 4, 5, 2, 3);
        x.begin(MOST_CITIES);
        due("match() of twenty without distances", x.match(), 0);
        for (int c = 0; c < MOST_CITIES; c++) {
            due("partner(" + c + ")", x.partner(c), c ^ 1);
        }
    }

    @Says(promise = 16, words = "All sums of distances are reckoned in 64 bits.")
    static void matchOfFarCities() {
        due("match() of twenty", of(star(MOST_CITIES, 1073741823, 2147483646)).match(),
                1073741823L + 9 * 2147483646L);
        // 0 - 3 with 1 - 2 is the least; the sums of the others don't go into 32 bits.
        RoundTours x = of("^4:1000000000,1000000000,1000000000;1100000000,1200000000;1200000000;");
        due("match()", x.match(), 2100000000L);
        duePartners(x, 3, 2, 1, 0);
    }

    private static String star(int n, int near, int far) {
        StringBuilder text = new StringBuilder("^" + n + ":");
        for (int a = 0; a < n - 1; a++) {
            text.append(((a == 0 ? near : far) + ",").repeat(n - 1 - a));
            text.setCharAt(text.length() - 1, ';');
        }
        return text.toString();
    }

    @Says(promise = 17, words = "The partner of a city;")
    static void partnerOfTheFirstAndTheLast() {
        RoundTours x = of(LINE);
        x.match();
        due("partner(0)", x.partner(0), 3);
        due("partner(3)", x.partner(3), 0);
        x.begin(MOST_CITIES);
        x.match();
        due("partner(19)", x.partner(19), 18);
    }

    @Says(promise = 17, words = "NONE when it is not odd.")
    static void partnerOfAnEvenCity() {
        RoundTours x = of(LINE);
        x.match();
        due("partner(1)", x.partner(1), NONE);
        due("partner(2)", x.partner(2), NONE);
        x = new RoundTours();
        x.match();
        due("partner(0) of one city", x.partner(0), NONE);
        // City 0 had a partner before; now it has two edges.
        x.begin(4);
        x.match();
        x.begin(3);
        x.match();
        duePartners(x, NONE, 2, 1);
    }

    @Says(promise = 17, words = "UNKNOWN,")
    static void partnerOfNoCity() {
        RoundTours x = of(LINE);
        for (int city : noCities(4)) {
            due("partner(" + city + ") without a matching", x.partner(city), UNKNOWN);
        }
        x.match();
        for (int city : noCities(4)) {
            due("partner(" + city + ")", x.partner(city), UNKNOWN);
        }
    }

    @Says(promise = 17, words = "STATE (there is no matching).")
    static void partnerWithoutAMatching() {
        RoundTours x = of(LINE);
        due("partner(0)", x.partner(0), STATE);
        x.tree();
        for (int c = 0; c < 4; c++) {
            due("partner(" + c + ") with a tree alone", x.partner(c), STATE);
        }
    }

    @Says(promise = 18, words = "THE SUM OF THE PRICES that were found, when they are as told for any two odd cities")
    static void pricesOfTwoAndOfTwenty() {
        RoundTours x = of("^2:7;");
        x.match();
        due("prices() of two", x.prices(), 14);
        x = of(allAlike(MOST_CITIES, 6));
        x.match();
        due("prices() of twenty", x.prices(), 120);
        due("prices() again", x.prices(), 120);
    }

    @Says(promise = 18, words = "PRICES prove it: a number for each odd city, and numbers from 0 on for sets of "
            + "three, five .. odd cities, so that for any two odd cities twice their distance, less both their "
            + "prices, and the prices of all sets that have both of them, is not below 0;")
    static void pricesOfSets() {
        // Without prices of the two triples no more than 80 could be had: 40 is the sum of 0 - 7 and
        // half of each triple's three pairs.
        RoundTours x = of(TRIPLES);
        due("match()", x.match(), 50);
        duePartners(x, 1, 0, 3, 2, 5, 4, 7, 6);
        due("prices()", x.prices(), 100);
        // 1 .. 5 are near among themselves, and so are 6, 7, 8; 9 is near to 0 alone.
        x.begin(10);
        for (int a = 0; a < 10; a++) {
            for (int b = a + 1; b < 10; b++) {
                boolean near = a == 0 || b <= 5 || a >= 6 && b <= 8;
                x.set(a, b, near ? 10 : 20, true);
            }
        }
        due("match() with five", x.match(), 60);
        due("prices() with five", x.prices(), 120);
    }

    /** No set's number may fall below 0: such a set is taken apart, and other sets are made. */
    @Says(promise = 18, words = "numbers from 0 on for sets of three, five .. odd cities")
    static void pricesOfSetsInSets() {
        dueMatching(125, "^12:20,20,20,20,20,20,20,20,20,20,20;22,22,21,22,21,21,21,21,22,22;"
                + "22,22,21,21,22,22,22,21,22;21,22,21,22,22,21,22,21;21,21,22,21,21,22,21;22,22,22,22,22,21;"
                + "21,21,22,22,22;21,22,21,22;21,21,21;22,22;21;", 1, 0, 5, 4, 3, 2, 7, 6, 9, 8, 11, 10);
        dueMatching(105, "^10:20,20,20,20,20,20,20,20,20;21,23,21,22,22,23,23,22;23,22,22,22,23,23,23;"
                + "22,22,21,23,21,23;23,23,23,23,23;22,24,23,21;23,21,22;24,24;22;", 7, 2, 1, 4, 3, 9, 8, 0, 6, 5);
        dueMatching(135, "^12:20,20,20,20,20,20,20,20,20,20,20;31,33,33,22,33,33,33,32,33,23;"
                + "26,28,32,22,27,27,22,27,32;21,33,26,26,23,27,28,31;31,28,28,22,28,26,33;32,32,32,32,31,23;"
                + "28,28,22,28,33;28,28,23,31;28,27,32;28,31;33;", 11, 5, 3, 2, 8, 1, 9, 10, 4, 6, 7, 0);
        dueMatching(125, "^12:20,20,20,20,20,20,20,20,20,20,20;22,22,23,21,23,21,23,23,23,23;"
                + "21,22,21,21,23,21,23,22,22;22,23,23,22,22,22,23,22;21,21,22,23,21,21,21;23,23,23,23,23,23;"
                + "22,21,22,22,21;22,23,21,23;21,23,21;21,21;21;", 1, 0, 3, 2, 5, 4, 8, 10, 6, 11, 7, 9);
        dueMatching(427, "^16:50,50,50,50,50,50,50,50,50,50,50,50,50,50,50;"
                + "66,62,51,65,53,65,69,59,62,63,69,61,63,68;66,67,66,67,55,60,63,59,60,54,71,56,64;"
                + "52,70,55,61,65,54,61,66,66,63,68,63;71,53,60,63,52,61,67,61,62,67,70;66,62,66,70,57,53,60,64,56,60;"
                + "57,67,61,71,67,68,67,62,71;56,63,59,62,54,66,70,71;71,51,67,56,63,57,66;67,66,69,59,66,68;"
                + "57,62,68,60,61;67,66,53,61;65,57,63;61,62;57;", 13, 4, 12, 9, 1, 11, 7, 6, 10, 3, 8, 5, 2, 0, 15, 14);
    }

    private static void dueMatching(long sum, String text, int... partners) {
        RoundTours x = of(text);
        due("match()", x.match(), sum);
        due("prices()", x.prices(), 2 * sum);
        duePartners(x, partners);
    }

    @Says(promise = 18, words = "THE SUM OF THE PRICES, that of the cities' less each set's price as often as half "
            + "of its size less 1, is twice the sum of the matching.")
    static void pricesAreTwiceTheSum() {
        String[] texts = {LINE, TRIPLES, MADE, "^4:4,5,5;5,5;8;", star(MOST_CITIES, 1073741823, 2147483646)};
        for (String text : texts) {
            RoundTours x = of(text);
            long sum = x.match();
            due("prices() of " + text, x.prices(), 2 * sum);
        }
    }

    @Says(promise = 18, words = "All sums of distances are reckoned in 64 bits.")
    static void pricesOfFarSets() {
        // Two stars, round 0 and round 4, as far apart as can be: the numbers of the sets 1 2 3 and
        // 5 6 7 don't go into 32 bits.
        RoundTours x = new RoundTours();
        x.begin(8);
        for (int a = 0; a < 8; a++) {
            for (int b = a + 1; b < 8; b++) {
                int near = a % 4 == 0 ? 1 : 2;
                x.set(a, b, a / 4 == b / 4 ? near : TOP, true);
            }
        }
        due("match()", x.match(), 4L + TOP);
        due("prices()", x.prices(), 8 + 2L * TOP);
        duePartners(x, NONE, 2, 1, 5, NONE, 3, 7, 6);
    }

    @Says(promise = 18, words = "(they always are; 0 without odd cities).")
    static void pricesWithoutOddCities() {
        RoundTours x = new RoundTours();
        x.match();
        due("prices() of one city", x.prices(), 0);
        x = of("^2:7;");
        x.match();
        x.drop(0);
        x.match();
        due("prices() of one city behind two", x.prices(), 0);
        x.begin(MOST_CITIES);
        x.match();
        due("prices() without distances", x.prices(), 0);
    }

    @Says(promise = 18, words = "STATE (there is no matching).")
    static void pricesWithoutAMatching() {
        RoundTours x = of(LINE);
        due("prices()", x.prices(), STATE);
        x.tree();
        due("prices() with a tree alone", x.prices(), STATE);
        due("prices() of a new object", new RoundTours().prices(), STATE);
    }
}
