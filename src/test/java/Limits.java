/** What the tests of single sentences share. */
abstract class Limits {
    static final int NONE = RoundTours.NONE;
    static final int UNKNOWN = RoundTours.UNKNOWN;
    static final int OUTSIDE = RoundTours.OUTSIDE;
    static final int STATE = RoundTours.STATE;
    static final int ROOM = RoundTours.ROOM;
    static final int TOP = Integer.MAX_VALUE;
    static final int BOTTOM = Integer.MIN_VALUE;
    static final int MOST_CITIES = 20;

    /** One matrix with a flaw of each kind. */
    static final String[] FLAWED = {"=2:0,1;1,3;", "=2:0,1;2,0;", "^3:3,1;1;"};

    /** Four cities on a line at 0, 1, 3, 6. */
    static final String LINE = "+4:0,0;1,0;3,0;6,0;";

    static void due(String call, long got, long want) {
        Due.due(call, got, want);
    }

    static RoundTours of(String text) {
        RoundTours x = new RoundTours();
        due("read() of " + text, Typing.read(x, text), Integer.parseInt(text.replaceAll("^.(\\d+):.*", "$1")));
        return x;
    }

    static void dueRead(String text, int want) {
        due("read() of \"" + text + "\"", Typing.read(new RoundTours(), text), want);
    }

    static void dueFault(String text, int place) {
        dueRead(text, -1000 - place);
    }

    /** A text of form ^ with one number for all distances. */
    static String allAlike(int n, int far) {
        StringBuilder text = new StringBuilder("^" + n + ":");
        for (int a = 0; a < n - 1; a++) {
            text.append((far + ",").repeat(n - 1 - a));
            text.setCharAt(text.length() - 1, ';');
        }
        return text.toString();
    }

    static int[] noCities(int n) {
        return new int[] {-1, n, n + 1, MOST_CITIES, TOP, BOTTOM};
    }

    static void dueStops(RoundTours x, int... cities) {
        for (int i = 0; i < cities.length; i++) {
            due("stop(" + i + ")", x.stop(i), cities[i]);
        }
        due("stop(" + cities.length + ")", x.stop(cities.length), NONE);
    }

    static void dueCorners(RoundTours x, int... cities) {
        for (int i = 0; i < cities.length; i++) {
            due("corner(" + i + ")", x.corner(i), cities[i]);
        }
        due("corner(" + cities.length + ")", x.corner(cities.length), NONE);
    }

    static void duePartners(RoundTours x, int... cities) {
        for (int c = 0; c < cities.length; c++) {
            due("partner(" + c + ")", x.partner(c), cities[c]);
        }
    }

    static void dueHung(RoundTours x, int... cities) {
        for (int c = 0; c < cities.length; c++) {
            due("hung(" + c + ")", x.hung(c), cities[c]);
        }
    }

    static void duePenalties(RoundTours x, long... penalties) {
        for (int c = 0; c < penalties.length; c++) {
            due("penalty(" + c + ")", x.penalty(c), penalties[c]);
        }
    }

    static final String MADE = "^4:2,2,2;1,1;2;";

    /** Tree, matching, round and tour are made, and two cities have penalties. */
    static RoundTours allMade() {
        RoundTours x = of(MADE);
        due("build(0, 0)", x.build(0, 0), 7);
        due("bound(1, 5)", x.bound(1, 5), 6);
        return x;
    }

    static void dueAllStays(String behind, RoundTours x) {
        due(behind + " cities()", x.cities(), 4);
        due(behind + " distance(1, 2)", x.distance(1, 2), 1);
        due(behind + " hung(2)", x.hung(2), 1);
        due(behind + " partner(0)", x.partner(0), 2);
        due(behind + " corner(2)", x.corner(2), 3);
        due(behind + " stop(2)", x.stop(2), 3);
        due(behind + " length()", x.length(), 7);
        due(behind + " penalty(1)", x.penalty(1), 5);
        due(behind + " penalty(3)", x.penalty(3), -5);
    }

    static void dueNothingMade(String behind, RoundTours x) {
        due(behind + " hung(0)", x.hung(0), STATE);
        due(behind + " cut(0)", x.cut(0), STATE);
        due(behind + " odd(0)", x.odd(0), STATE);
        due(behind + " partner(0)", x.partner(0), STATE);
        due(behind + " prices()", x.prices(), STATE);
        due(behind + " corner(0)", x.corner(0), STATE);
        due(behind + " stop(0)", x.stop(0), NONE);
        due(behind + " place(0)", x.place(0), STATE);
        due(behind + " length()", x.length(), STATE);
        due(behind + " better(2, 1)", x.better(2, 1), STATE);
    }
}
