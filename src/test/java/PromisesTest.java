/** Each promise by calls whose answers were reckoned by hand from the document. */
public final class PromisesTest {
    private static final int NONE = RoundTours.NONE;
    private static final int UNKNOWN = RoundTours.UNKNOWN;
    private static final int OUTSIDE = RoundTours.OUTSIDE;
    private static final int STATE = RoundTours.STATE;
    private static final int ROOM = RoundTours.ROOM;

    /** Four cities on a line at 0, 1, 3, 6. */
    private static final String LINE = "+4:0,0;1,0;3,0;6,0;";

    public static void main(String[] args) {
        newObject();
        begin();
        type();
        clear();
        readForms();
        readFaults();
        readKeeps();
        add();
        drop();
        set();
        distance();
        flaw();
        goneWithTheMatrix();
        tree();
        cut();
        odd();
        match();
        matchOfSeveral();
        prices();
        round();
        buildShortened();
        buildNearest();
        buildPutIn();
        buildPaired();
        tourCalls();
        betterByTurns();
        betterByMoves();
        betterByBoth();
        best();
        bound();
        boundSteps();
        penalties();
        Due.end();
    }

    private static void due(String what, long got, long want) {
        Due.due(what, got, want);
    }

    private static RoundTours of(String text) {
        RoundTours x = new RoundTours();
        Due.that(Typing.read(x, text) > 0, "read of " + text);
        return x;
    }

    private static void dueStops(String what, RoundTours x, int... cities) {
        for (int i = 0; i < cities.length; i++) {
            due(what + " stop " + i, x.stop(i), cities[i]);
            due(what + " place of " + cities[i], x.place(cities[i]), i);
        }
        due(what + " stop behind the last", x.stop(cities.length), NONE);
    }

    private static void dueRead(String text, int want) {
        due("read of \"" + text + "\"", Typing.read(new RoundTours(), text), want);
    }

    private static void newObject() {
        RoundTours x = new RoundTours();
        due("new: cities", x.cities(), 1);
        due("new: distance", x.distance(0, 0), 0);
        due("new: flaw", x.flaw(0), 0);
        due("new: hung", x.hung(0), STATE);
        due("new: cut", x.cut(0), STATE);
        due("new: odd", x.odd(0), STATE);
        due("new: partner", x.partner(0), STATE);
        due("new: prices", x.prices(), STATE);
        due("new: corner", x.corner(0), STATE);
        due("new: stop", x.stop(0), NONE);
        due("new: place", x.place(0), STATE);
        due("new: length", x.length(), STATE);
        due("new: better", x.better(0, 1), STATE);
        due("new: penalty", x.penalty(0), 0);
        due("new: forgive", x.forgive(), 0);
        due("new: read of the empty tape", x.read(), -1000);
        due("new: clear", x.clear(), 0);
        due("new: only city stays", x.drop(0), STATE);
    }

    private static void begin() {
        RoundTours x = of(LINE);
        x.tree();
        for (int n : new int[] {0, -1, 21, Integer.MIN_VALUE, Integer.MAX_VALUE}) {
            due("begin(" + n + ")", x.begin(n), OUTSIDE);
        }
        due("begin OUTSIDE leaves cities", x.cities(), 4);
        due("begin OUTSIDE leaves the tree", x.hung(1), 0);
        due("begin(20)", x.begin(20), 20);
        due("begin(20) cities", x.cities(), 20);
        due("begin(20) distances", x.distance(0, 3), 0);
        due("begin(1)", x.begin(1), 1);
        due("begin(1) cities", x.cities(), 1);
        due("begin(4)", x.begin(4), 4);
        due("begin(4) distances", x.distance(0, 3), 0);
        x.tree();
        due("begin once more", x.begin(4), 4);
        due("begin: the tree is gone though nothing differs", x.hung(0), STATE);
    }

    private static void type() {
        RoundTours x = new RoundTours();
        due("type 0", x.type('0', 0), OUTSIDE);
        due("type 9", x.type('0', 9), OUTSIDE);
        due("type -1", x.type('0', -1), OUTSIDE);
        due("type 31", x.type(31, 1), OUTSIDE);
        due("type 127", x.type(127, 1), OUTSIDE);
        due("type 255", x.type(-1L, 8), OUTSIDE);
        due("type: a wrong byte in the middle", x.type(0x3d0a3dL, 3), OUTSIDE);
        due("type: a wrong highest byte", x.type(0x0a3d3dL, 3), OUTSIDE);
        due("type OUTSIDE leaves the tape", x.clear(), 0);
        due("type 32", x.type(32, 1), 1);
        due("type 126", x.type(126, 1), 2);
        due("type: bytes above don't count", x.type(0xff0a7e7eL, 2), 4);
        due("type: how many", x.clear(), 4);
        // "^2:9;" by two calls, the highest byte first
        due("type first part", x.type(0x5e32L, 2), 2);
        due("type second part", x.type(0x3a393bL, 3), 5);
        due("type is read", x.read(), 2);
        due("type is read in order", x.distance(1, 0), 9);
        due("type 8", x.type(0x7e7e7e7e7e7e7e7eL, 8), 8);
        x.clear();
        // Behind the 512th call answers are free; this is what the program does there.
        for (int i = 1; i <= 625; i++) {
            due("type " + i, x.type(0x2020202020202020L, 8), 8 * i);
        }
        due("type: 5001", x.type(32, 1), ROOM);
        due("type: ROOM leaves the tape", x.clear(), 5000);
    }

    private static void clear() {
        RoundTours x = of(LINE);
        x.tree();
        Typing.type(x, "=1:0;");
        due("clear", x.clear(), 5);
        due("clear again", x.clear(), 0);
        due("clear: nothing to read", x.read(), -1000);
        due("clear leaves the matrix", x.distance(0, 3), 6);
        due("clear leaves the tree", x.hung(3), 2);
    }

    private static void readForms() {
        RoundTours x = of("=2:1,5;7,2147483647;");
        due("= 0 0", x.distance(0, 0), 1);
        due("= 0 1", x.distance(0, 1), 5);
        due("= 1 0", x.distance(1, 0), 7);
        due("= 1 1", x.distance(1, 1), 2147483647);
        x = of("^4:1,2,3;4,5;6;");
        int[][] want = {{0, 1, 2, 3}, {1, 0, 4, 5}, {2, 4, 0, 6}, {3, 5, 6, 0}};
        for (int a = 0; a < 4; a++) {
            for (int b = 0; b < 4; b++) {
                due("^ " + a + " " + b, x.distance(a, b), want[a][b]);
            }
        }
        due("^ of one city", Typing.read(x, "^1:"), 1);
        due("^ of one city: cities", x.cities(), 1);
        due("^ of one city: distance", x.distance(0, 0), 0);
        x = of("+3:10,20;13,16;0,1000000;");
        due("+ 0 1", x.distance(0, 1), 7);
        due("+ 1 0", x.distance(1, 0), 7);
        due("+ 0 2", x.distance(0, 2), 999990);
        due("+ 2 2", x.distance(2, 2), 0);
        x = of("*6:0,0;3,4;1,1;1000000,1000000;0,7;2,0;");
        due("* 0 1", x.distance(0, 1), 5);
        due("* 0 2", x.distance(0, 2), 2);
        due("* 0 3", x.distance(0, 3), 1414214);
        due("* 4 0", x.distance(4, 0), 7);
        due("* 2 5", x.distance(2, 5), 2);
        due("* 1 2", x.distance(1, 2), 4);
        x = of("  =  0000000002  :  0 , 0000000005 ; 5 , 0 ;  ");
        due("spaces and zeros", x.distance(0, 1), 5);
        due("spaces only behind", Typing.read(x, "+1:0,0; "), 1);
    }

    private static void readFaults() {
        dueRead("   ", -1003);
        dueRead("x", -1000);
        dueRead(" 1=", -1001);
        dueRead("=", -1001);
        dueRead("= ", -1002);
        dueRead("=x", -1001);
        dueRead("==", -1001);
        dueRead("=1", -1002);
        dueRead("=1;", -1002);
        dueRead("=1 1:", -1003);
        dueRead("=0:", -1001);
        dueRead("= 0:", -1002);
        dueRead("=0", -1002);
        dueRead("=21:what stands here", -1001);
        dueRead("=21;", -1003);
        dueRead("=9999999999:", -1001);
        dueRead("=12345678901:", -1011);
        dueRead("=00000000001:0;", -1011);
        dueRead("=1:", -1003);
        dueRead("=1:0", -1004);
        dueRead("=1:0 ", -1005);
        dueRead("=1:0,", -1004);
        dueRead("=1:0 0;", -1005);
        dueRead("=1:-1;", -1003);
        dueRead("=1:0;0", -1005);
        dueRead("=1:0;;", -1005);
        dueRead("=1:0; x", -1006);
        dueRead("=1:2147483647;", 1);
        dueRead("=1:2147483648;", -1003);
        dueRead("=1: 9999999999;", -1004);
        dueRead("=1:2147483648;x", -1014);
        dueRead("=1:10000000000;", -1013);
        dueRead("=2:0,9999999999;9999999998,0;", -1005);
        dueRead("=2:0,9999999999;9999999998,0", -1028);
        dueRead("=2:0;", -1004);
        dueRead("=2:0,0,", -1006);
        dueRead("=2:0,0;0,0;", 2);
        dueRead("^1:;", -1003);
        dueRead("^1:0;", -1003);
        dueRead("^2:;", -1003);
        dueRead("^2:2147483647;", 2);
        dueRead("^2:2147483648;", -1003);
        dueRead("^3:1,2;", -1007);
        dueRead("^3:1,2;3,", -1008);
        dueRead("^3:1,2;3;", 3);
        dueRead("+1:1000000,1000000;", 1);
        dueRead("+1:1000001,0;", -1003);
        dueRead("*1:0,1000001;", -1005);
        dueRead("+1:0;", -1004);
        dueRead("+1:0,0,", -1006);
        dueRead("+1:0,0", -1006);
        dueRead("+2:0,0;", -1007);
        StringBuilder twenty = new StringBuilder("+20:");
        for (int i = 0; i < 20; i++) {
            twenty.append(i).append(",0;");
        }
        dueRead(twenty.toString(), 20);
    }

    private static void readKeeps() {
        RoundTours x = of(LINE);
        x.build(0, 0);
        x.bound(1, 0);
        due("a fault", Typing.read(x, "=1:0;x"), -1005);
        due("behind a fault the tape is empty", x.clear(), 0);
        due("a fault leaves the matrix", x.distance(0, 3), 6);
        due("a fault leaves the tour", x.length(), 12);
        due("an unfit number", Typing.read(x, "=1:2147483648;"), -1003);
        due("an unfit number leaves the tree", x.hung(3), 2);
        due("the same matrix again", Typing.read(x, LINE), 4);
        due("behind a text the tape is empty", x.clear(), 0);
        due("a text takes the tree away", x.hung(3), STATE);
        due("a text takes the tour away", x.length(), STATE);
        due("a smaller one", Typing.read(x, "=1:0;"), 1);
        due("a smaller one: cities", x.cities(), 1);
        due("a city more behind it", x.add(), 1);
        due("its distance is 0", x.distance(0, 1), 0);
        due("its distance is 0, too", x.distance(1, 0), 0);
    }

    private static void add() {
        RoundTours x = of(LINE);
        x.tree();
        due("add", x.add(), 4);
        due("add: cities", x.cities(), 5);
        due("add takes the tree away", x.hung(1), STATE);
        for (int c = 0; c < 5; c++) {
            due("add: from the new one", x.distance(4, c), 0);
            due("add: to the new one", x.distance(c, 4), 0);
        }
        due("add leaves the others", x.distance(3, 0), 6);
        due("add: a flaw", x.flaw(0), 3);
        x.begin(19);
        due("add to 19", x.add(), 19);
        x.tree();
        due("add to 20", x.add(), ROOM);
        due("add to 20: cities", x.cities(), 20);
        due("add ROOM leaves the tree", x.hung(0), NONE);
        x = of("=2:1,2;3,4;");
        x.drop(1);
        due("add behind drop", x.add(), 1);
        due("add behind drop: 0 1", x.distance(0, 1), 0);
        due("add behind drop: 1 0", x.distance(1, 0), 0);
        due("add behind drop: 1 1", x.distance(1, 1), 0);
    }

    private static void drop() {
        RoundTours x = of("=3:11,12,13;21,22,23;31,32,33;");
        due("drop -1", x.drop(-1), UNKNOWN);
        due("drop 3", x.drop(3), UNKNOWN);
        due("drop 1", x.drop(1), 2);
        due("drop: 0 0", x.distance(0, 0), 11);
        due("drop: 0 1", x.distance(0, 1), 13);
        due("drop: 1 0", x.distance(1, 0), 31);
        due("drop: 1 1", x.distance(1, 1), 33);
        due("drop: no 2", x.distance(2, 0), UNKNOWN);
        due("drop 0", x.drop(0), 1);
        due("drop 0: 0 0", x.distance(0, 0), 33);
        due("drop the only one", x.drop(0), STATE);
        due("drop none such", x.drop(1), UNKNOWN);
        due("drop STATE leaves it", x.distance(0, 0), 33);
        x = of(LINE);
        x.tree();
        due("drop UNKNOWN", x.drop(4), UNKNOWN);
        due("drop UNKNOWN leaves the tree", x.hung(1), 0);
        due("drop 3", x.drop(3), 3);
        due("drop takes the tree away", x.hung(1), STATE);
    }

    private static void set() {
        RoundTours x = of(LINE);
        x.tree();
        due("set -1", x.set(-1, 0, 1, true), UNKNOWN);
        due("set 4", x.set(0, 4, 1, true), UNKNOWN);
        due("set UNKNOWN before OUTSIDE", x.set(4, 0, -1, true), UNKNOWN);
        due("set below 0", x.set(0, 1, -1, true), OUTSIDE);
        due("set wrong leaves the tree", x.hung(1), 0);
        due("set one way", x.set(0, 3, 7, false), 6);
        due("set one way: there", x.distance(0, 3), 7);
        due("set one way: back", x.distance(3, 0), 6);
        due("set both ways", x.set(3, 0, 2147483647, true), 6);
        due("set both ways: there", x.distance(3, 0), 2147483647);
        due("set both ways: back", x.distance(0, 3), 2147483647);
        due("set to itself", x.set(2, 2, 5, true), 0);
        due("set to itself: distance", x.distance(2, 2), 5);
        due("set 0", x.set(2, 2, 0, false), 5);
    }

    private static void distance() {
        RoundTours x = of("=2:1,2;3,4;");
        due("distance 0 1", x.distance(0, 1), 2);
        due("distance 1 0", x.distance(1, 0), 3);
        due("distance -1 0", x.distance(-1, 0), UNKNOWN);
        due("distance 0 -1", x.distance(0, -1), UNKNOWN);
        due("distance 2 0", x.distance(2, 0), UNKNOWN);
        due("distance 0 2", x.distance(0, 2), UNKNOWN);
        due("distance far out", x.distance(Integer.MAX_VALUE, Integer.MIN_VALUE), UNKNOWN);
        due("cities", x.cities(), 2);
    }

    private static void dueFlaw(String text, int kind, int a, int b, int c) {
        RoundTours x = of(text);
        due("kind of " + text, x.flaw(0), kind);
        due("a of " + text, x.flaw(1), a);
        due("b of " + text, x.flaw(2), b);
        due("c of " + text, x.flaw(3), c);
        due("flaw(-1)", x.flaw(-1), OUTSIDE);
        due("flaw(4)", x.flaw(4), OUTSIDE);
        long want = kind == 0 ? x.tree() : STATE;
        due("tree of " + text, x.tree(), want);
        due("match of " + text, kind == 0 ? STATE : x.match(), STATE);
        due("round of " + text, kind == 0 ? STATE : x.round(), STATE);
        due("build of " + text, kind == 0 ? STATE : x.build(3, 0), STATE);
        due("best of " + text, kind == 0 ? STATE : x.best(), STATE);
        due("bound of " + text, kind == 0 ? STATE : x.bound(1, 1), STATE);
    }

    private static void flaw() {
        dueFlaw("=1:0;", 0, NONE, NONE, NONE);
        dueFlaw(LINE, 0, NONE, NONE, NONE);
        dueFlaw("=3:0,1,9;2,3,1;9,1,4;", 1, 1, NONE, NONE);
        dueFlaw("=3:0,1,9;1,0,1;8,2,0;", 2, 0, 2, NONE);
        dueFlaw("=3:0,1,2;1,0,1;2,3,0;", 2, 1, 2, NONE);
        dueFlaw("=3:0,1,3;1,0,1;3,1,0;", 3, 0, 1, 2);
        dueFlaw("^3:9,1;1;", 3, 0, 2, 1);
        dueFlaw("^3:1,1;9;", 3, 1, 0, 2);
        dueFlaw("^4:5,5,11;5,5;5;", 3, 0, 1, 3);
        dueFlaw("^4:2,2,2;2,2;5;", 3, 2, 0, 3);
        dueFlaw("^3:2147483647,2147483647;2147483647;", 0, NONE, NONE, NONE);
        RoundTours x = of("^3:1,2;1;");
        due("sound at first", x.flaw(0), 0);
        x.set(0, 2, 3, true);
        due("flawed by set", x.flaw(0), 3);
        x.set(0, 2, 2, true);
        due("sound again", x.flaw(0), 0);
    }

    private static void dueNothingMade(String what, RoundTours x) {
        due(what + ": tree", x.hung(0), STATE);
        due(what + ": cut", x.cut(0), STATE);
        due(what + ": odd", x.odd(0), STATE);
        due(what + ": matching", x.partner(0), STATE);
        due(what + ": prices", x.prices(), STATE);
        due(what + ": round", x.corner(0), STATE);
        due(what + ": tour", x.length(), STATE);
        due(what + ": stop", x.stop(0), NONE);
        due(what + ": place", x.place(0), STATE);
        due(what + ": better", x.better(2, 9), STATE);
        due(what + ": penalties", x.forgive(), 0);
    }

    private static RoundTours withAllMade() {
        RoundTours x = of("^4:2,2,2;1,1;2;");
        x.build(0, 0);
        x.bound(1, 5);
        due("all made", x.corner(0), 0);
        due("all made: penalty", x.penalty(1), 5);
        return x;
    }

    private static void goneWithTheMatrix() {
        RoundTours x = withAllMade();
        x.set(0, 1, 3, false);
        dueNothingMade("behind set", x);
        x = withAllMade();
        x.set(0, 1, 2, false);
        dueNothingMade("behind set of what it was", x);
        x = withAllMade();
        x.begin(4);
        dueNothingMade("behind begin", x);
        x = withAllMade();
        x.add();
        dueNothingMade("behind add", x);
        x = withAllMade();
        x.drop(3);
        dueNothingMade("behind drop", x);
        x = withAllMade();
        Typing.read(x, "^4:2,2,2;1,1;2;");
        dueNothingMade("behind read", x);
        x = withAllMade();
        x.set(0, 9, 1, true);
        x.set(0, 1, -1, true);
        x.begin(0);
        x.drop(9);
        Typing.read(x, "?");
        due("wrong calls leave the round", x.corner(0), 0);
        due("wrong calls leave the penalties", x.forgive(), 2);
    }

    private static void tree() {
        RoundTours x = of(LINE);
        due("tree", x.tree(), 6);
        due("hung 0", x.hung(0), NONE);
        due("hung 1", x.hung(1), 0);
        due("hung 2", x.hung(2), 1);
        due("hung 3", x.hung(3), 2);
        due("hung -1", x.hung(-1), UNKNOWN);
        due("hung 4", x.hung(4), UNKNOWN);
        // City 2 comes first, then 1 by 2 (of 2 and 0 the least with this distance is 0).
        x = of("^4:3,2,4;3,4;3;");
        due("tree with a choice", x.tree(), 8);
        due("choice: hung 1 on the least", x.hung(1), 0);
        due("choice: hung 2", x.hung(2), 0);
        due("choice: hung 3", x.hung(3), 2);
        x = of("^3:2147483647,2147483647;2147483647;");
        due("tree in 64 bits", x.tree(), 4294967294L);
        due("all alike: hung 2 on 0", x.hung(2), 0);
        x = new RoundTours();
        due("UNKNOWN before STATE", x.hung(1), UNKNOWN);
        due("tree of one", x.tree(), 0);
    }

    private static void cut() {
        RoundTours x = of(LINE);
        due("cut UNKNOWN before STATE", x.cut(4), UNKNOWN);
        due("cut without a tree", x.cut(1), STATE);
        x.tree();
        due("cut 0", x.cut(0), NONE);
        due("cut 1: 0 - 2", x.cut(1), 3);
        due("cut 2: 0 - 2", x.cut(2), 3);
        due("cut 3: 1 - 3", x.cut(3), 5);
        due("cut -1", x.cut(-1), UNKNOWN);
        due("cut 4", x.cut(4), UNKNOWN);
        x = of("^2:5;");
        x.tree();
        due("cut of two cities", x.cut(1), NONE);
        x = of("^3:5,5;5;");
        x.tree();
        due("cut with the same distance", x.cut(1), 5);
    }

    private static void odd() {
        RoundTours x = of(LINE);
        due("odd without a tree", x.odd(0), STATE);
        due("odd -1 without a tree", x.odd(-1), STATE);
        x.tree();
        due("odd 0", x.odd(0), 0);
        due("odd 1", x.odd(1), 3);
        due("odd 2", x.odd(2), NONE);
        due("odd -1", x.odd(-1), NONE);
        x.begin(20);
        x.tree();
        for (int i = 0; i < 20; i++) {
            due("odd of a star", x.odd(i), i);
        }
        due("odd behind the last", x.odd(20), NONE);
        x.begin(3);
        x.tree();
        due("odd: 0 has two edges", x.odd(0), 1);
    }

    private static void match() {
        RoundTours x = of(LINE);
        due("partner without a matching", x.partner(0), STATE);
        due("partner UNKNOWN before STATE", x.partner(4), UNKNOWN);
        x.tree();
        due("partner without a matching, with a tree", x.partner(0), STATE);
        due("match", x.match(), 6);
        due("partner 0", x.partner(0), 3);
        due("partner 3", x.partner(3), 0);
        due("partner 1", x.partner(1), NONE);
        due("partner -1", x.partner(-1), UNKNOWN);
        due("partner 4", x.partner(4), UNKNOWN);
        x = of(LINE);
        due("match makes the tree", x.match(), 6);
        due("match made the tree", x.hung(3), 2);
        due("tree leaves the matching", x.tree(), 6);
        due("matching is there", x.partner(0), 3);
        due("match of one city", new RoundTours().match(), 0);
        // A star: 0 - 1 and 0 - 2 are as near as 1 - 2, but 2 - 3 costs less than 1 - 3.
        x = of("^4:4,4,4;5,8;5;");
        due("match: the least", x.match(), 9);
        due("match: partner 0", x.partner(0), 1);
        due("match: partner 2", x.partner(2), 3);
        x = of("^4:4,4,4;5,6;8;");
        due("match: not the first one", x.match(), 9);
        due("match: partner 0 is 3", x.partner(0), 3);
        due("match: partner 1 is 2", x.partner(1), 2);
    }

    private static void matchOfSeveral() {
        RoundTours x = new RoundTours();
        x.begin(20);
        due("match of a star of nothing", x.match(), 0);
        for (int c = 0; c < 20; c++) {
            due("partner of " + c, x.partner(c), c ^ 1);
        }
        // 0 with 1 leaves 2 3 4 5, in which 2 - 4, 3 - 5 and 2 - 5, 3 - 4 cost the same.
        x = of("^6:4,4,4,4,4;7,7,7,7;7,5,5;5,5;7;");
        due("match of several", x.match(), 14);
        due("several: partner 0", x.partner(0), 1);
        due("several: partner 2", x.partner(2), 4);
        due("several: partner 3", x.partner(3), 5);
    }

    private static void prices() {
        RoundTours x = of(LINE);
        due("prices without a matching", x.prices(), STATE);
        x.tree();
        due("prices with a tree", x.prices(), STATE);
        x.match();
        due("prices", x.prices(), 12);
        x = new RoundTours();
        x.match();
        due("prices without odd cities", x.prices(), 0);
        StringBuilder star = new StringBuilder("^20:");
        for (int a = 0; a < 19; a++) {
            for (int b = a + 1; b < 20; b++) {
                star.append(a == 0 ? 1073741823 : 2147483646).append(b < 19 ? "," : ";");
            }
        }
        x = of(star.toString());
        due("match of far cities", x.match(), 1073741823L + 9 * 2147483646L);
        due("prices of far cities", x.prices(), 2 * (1073741823L + 9 * 2147483646L));
        // Two triples far apart, both odd: one pair must go between them, and sets have prices.
        x = of("+8:500,0;0,0;0,2;1,1;1000,0;1000,2;999,1;500,1;");
        due("match of triples", 2 * x.match(), x.prices());
    }

    private static void round() {
        RoundTours x = of(LINE);
        due("corner without a round", x.corner(0), STATE);
        due("corner -1 without a round", x.corner(-1), STATE);
        due("round", x.round(), 4);
        int[] want = {0, 1, 2, 3, 0};
        for (int i = 0; i < want.length; i++) {
            due("corner " + i, x.corner(i), want[i]);
        }
        due("corner 5", x.corner(5), NONE);
        due("corner -1", x.corner(-1), NONE);
        due("round made the matching", x.partner(0), 3);
        due("round made the tree", x.hung(3), 2);
        // A star round 0 with the pairs 0 - 1, 2 - 3: the row comes back to 0 and goes on from there.
        x.begin(4);
        dueRound("star", x, 0, 1, 0, 2, 3, 0);
        // A star round 1 with the same pairs: the row ends at 0 too early, and goes on from 1.
        dueRound("star round 1", of("^4:1,2,2;1,1;2;"), 0, 1, 2, 3, 1, 0);
        x.begin(20);
        due("the longest round", x.round(), 29);
        due("its last corner", x.corner(29), 0);
        due("behind it", x.corner(30), NONE);
    }

    private static void dueRound(String what, RoundTours x, int... corners) {
        due(what + " round", x.round(), corners.length - 1);
        for (int i = 0; i < corners.length; i++) {
            due(what + " corner " + i, x.corner(i), corners[i]);
        }
        due(what + " corner behind the last", x.corner(corners.length), NONE);
    }

    private static void buildShortened() {
        RoundTours x = new RoundTours();
        x.begin(4);
        due("build 0", x.build(0, 99), 0);
        dueStops("build 0", x, 0, 1, 2, 3);
        due("build 0 made the round", x.corner(3), 2);
        due("build -1", x.build(-1, 0), OUTSIDE);
        due("build 4", x.build(4, 99), OUTSIDE);
        due("build 1 of no city", x.build(1, 4), UNKNOWN);
        due("build 2 of no city", x.build(2, -1), UNKNOWN);
        dueStops("wrong builds leave the tour", x, 0, 1, 2, 3);
        x.set(0, 0, 1, false);
        due("OUTSIDE before STATE", x.build(4, 0), OUTSIDE);
        due("UNKNOWN before STATE", x.build(1, 4), UNKNOWN);
        due("build STATE", x.build(3, 4), STATE);
        x = of(LINE);
        due("build 0 of a line", x.build(0, 0), 12);
        dueStops("build 0 of a line", x, 0, 1, 2, 3);
        // The pairs 0 - 1, 2 - 4, 3 - 5 as in matchOfSeveral: 0 1 0 2 4 0 3 5 0 is the round.
        x = of("^6:4,4,4,4,4;7,7,7,7;7,5,5;5,5;7;");
        due("build 0 in leaps", x.build(0, 0), 4 + 7 + 5 + 5 + 5 + 4);
        dueStops("build 0 in leaps", x, 0, 1, 2, 4, 3, 5);
    }

    private static void buildNearest() {
        RoundTours x = of(LINE);
        due("build 1 from 1", x.build(1, 1), 12);
        dueStops("build 1 from 1: 1 0 2 3", x, 0, 2, 3, 1);
        due("build 1 makes no tree", x.hung(0), STATE);
        due("build 1 from 3", x.build(1, 3), 12);
        dueStops("build 1 from 3: 3 2 1 0", x, 0, 3, 2, 1);
        x = of("^4:2,2,2;2,2;2;");
        x.build(1, 2);
        dueStops("build 1, all alike: 2 0 1 3", x, 0, 1, 3, 2);
        due("build 1 of one", new RoundTours().build(1, 0), 0);
    }

    private static void buildPutIn() {
        RoundTours x = of(LINE);
        // 3 alone; 2 behind it; 1 for 4 behind 3 (as near behind 2); 0 for 2 behind 3.
        due("build 2 from 3", x.build(2, 3), 12);
        dueStops("build 2 from 3: 3 0 1 2", x, 0, 1, 2, 3);
        // 1 alone; 0 behind it; 2 for 4 behind 1; 3 for 6 behind 1.
        due("build 2 from 1", x.build(2, 1), 12);
        dueStops("build 2 from 1: 1 3 2 0", x, 0, 1, 3, 2);
        x = of("^4:2,2,2;2,2;2;");
        due("build 2, all alike", x.build(2, 2), 8);
        // 2; 2 0; 2 1 0; 2 3 1 0
        dueStops("build 2, all alike", x, 0, 2, 3, 1);
    }

    private static void buildPaired() {
        RoundTours x = of(LINE);
        due("build 3", x.build(3, -5), 12);
        dueStops("build 3", x, 0, 1, 2, 3);
        // 1 - 2, then 0 - 3, then 0 - 1 (1 - 3 and 0 - 2 come behind it), then 2 - 3.
        x = of("^4:4,5,3;2,5;6;");
        due("build 3 with pairs", x.build(3, 0), 15);
        dueStops("build 3 with pairs", x, 0, 1, 2, 3);
        // 2 - 3, 0 - 2 close no ring; 0 - 3 would; 0 - 1, then 1 - 3 at last.
        x = of("^4:5,3,3;6,6;2;");
        due("build 3 without the small ring", x.build(3, 0), 16);
        dueStops("build 3 without the small ring", x, 0, 1, 3, 2);
        x = of("^2:7;");
        due("build 3 of two", x.build(3, 0), 14);
        dueStops("build 3 of two", x, 0, 1);
        due("build 3 of one", new RoundTours().build(3, 0), 0);
    }

    private static void tourCalls() {
        RoundTours x = of(LINE);
        due("stop without a tour", x.stop(0), NONE);
        due("place UNKNOWN before STATE", x.place(4), UNKNOWN);
        due("place without a tour", x.place(0), STATE);
        due("length without a tour", x.length(), STATE);
        x.build(1, 1);
        due("stop -1", x.stop(-1), NONE);
        due("stop 4", x.stop(4), NONE);
        due("place -1", x.place(-1), UNKNOWN);
        due("place 4", x.place(4), UNKNOWN);
        due("place 1", x.place(1), 3);
        due("length", x.length(), 12);
        x = of("^3:2147483647,2147483647;2147483647;");
        due("build in 64 bits", x.build(3, 0), 6442450941L);
        due("length in 64 bits", x.length(), 6442450941L);
    }

    /** On a line at 5, 4, 7, 0: 0 1 2 3 has 16, and the turn of the places 1, 2 makes it 14. */
    private static RoundTours toBetter() {
        RoundTours x = of("+4:5,0;4,0;7,0;0,0;");
        due("to better", x.build(1, 0), 16);
        dueStops("to better", x, 0, 1, 2, 3);
        return x;
    }

    private static void betterByTurns() {
        RoundTours x = toBetter();
        due("better -1", x.better(-1, 1), OUTSIDE);
        due("better 3", x.better(3, 1), OUTSIDE);
        due("better 0 times", x.better(0, 0), OUTSIDE);
        due("better 301 times", x.better(0, 301), OUTSIDE);
        dueStops("better OUTSIDE leaves it", x, 0, 1, 2, 3);
        due("better 0", x.better(0, 300), 1);
        dueStops("better 0", x, 0, 2, 1, 3);
        due("better 0: length", x.length(), 14);
        due("better 0 again", x.better(0, 1), 0);
        due("better leaves penalties", x.forgive(), 0);
        x = of("^3:2,2;2;");
        due("OUTSIDE before STATE", x.better(3, 1), OUTSIDE);
        due("better without a tour", x.better(0, 1), STATE);
    }

    private static void betterByMoves() {
        RoundTours x = toBetter();
        due("better 1", x.better(1, 300), 1);
        dueStops("better 1", x, 0, 2, 1, 3);
        due("better 1: length", x.length(), 14);
        // At 2, 3, 0, 6, 7, 9 on a line, nearest from 0 on: 0 1 2 3 4 5 with 1 + 3 + 6 + 1 + 2 + 7.
        x = of("+6:2,0;3,0;0,0;6,0;7,0;9,0;");
        due("to move", x.build(1, 0), 20);
        dueStops("to move", x, 0, 1, 2, 3, 4, 5);
        due("one move", x.better(1, 1), 1);
        // The first one is city 1 behind city 2 (place 1 of those left).
        dueStops("one move", x, 0, 2, 1, 3, 4, 5);
        due("one move: length", x.length(), 18);
    }

    private static void betterByBoth() {
        RoundTours x = toBetter();
        due("better 2", x.better(2, 300), 1);
        dueStops("better 2 turns first", x, 0, 2, 1, 3);
        due("better of one city", one().better(2, 300), 0);
    }

    private static RoundTours one() {
        RoundTours x = new RoundTours();
        x.build(0, 0);
        return x;
    }

    private static void best() {
        RoundTours x = of("+4:5,0;4,0;7,0;0,0;");
        due("best", x.best(), 14);
        // Of 0 1 3 2, 0 2 1 3, 0 2 3 1, 0 3 1 2 the first one.
        dueStops("best", x, 0, 1, 3, 2);
        due("best: length", x.length(), 14);
        x.begin(11);
        due("best of 11", x.best(), 0);
        dueStops("best of 11", x, 0, 1, 2, 3, 4, 5, 6, 7, 8, 9, 10);
        x.begin(12);
        due("best of 12", x.best(), ROOM);
        due("best ROOM makes no tour", x.length(), STATE);
        x.build(1, 3);
        due("best of 12 again", x.best(), ROOM);
        due("best ROOM leaves the tour", x.stop(1), 1);
        x.set(0, 0, 1, false);
        due("STATE before ROOM", x.best(), STATE);
        x = of("^2:9;");
        due("best of two", x.best(), 18);
        dueStops("best of two", x, 0, 1);
        x = of("^3:2147483647,2147483647;2147483647;");
        due("best in 64 bits", x.best(), 6442450941L);
    }

    private static void bound() {
        RoundTours x = of("^4:2,2,2;1,1;2;");
        due("bound 0 rounds", x.bound(0, 1), OUTSIDE);
        due("bound 101 rounds", x.bound(101, 1), OUTSIDE);
        due("bound step -1", x.bound(1, -1), OUTSIDE);
        due("bound step 1000001", x.bound(1, 1000001), OUTSIDE);
        // 1 - 2, 1 - 3 and 0 - 1, 0 - 2: 6; then 1 - 3, 3 - 2 and 0 - 3, 0 - 2 with penalties: -3.
        due("bound of one round", x.bound(1, 5), 6);
        due("penalty 0", x.penalty(0), 0);
        due("penalty 1", x.penalty(1), 5);
        due("penalty 2", x.penalty(2), 0);
        due("penalty 3", x.penalty(3), -5);
        due("bound goes on with penalties", x.bound(1, 5), -3);
        due("penalty 3 then", x.penalty(3), 0);
        due("penalty 1 then", x.penalty(1), 0);
        due("forgive", x.forgive(), 0);
        due("bound is the greatest", x.bound(2, 5), 6);
        x.forgive();
        due("bound of 100 rounds without a step", x.bound(100, 0), 6);
        due("no penalties without a step", x.forgive(), 0);
        due("bound with the longest step", x.bound(1, 1000000), 6);
        due("its penalty", x.penalty(1), 1000000);
        due("bound of one", new RoundTours().bound(5, 5), 0);
        x = of("^2:2147483647;");
        due("bound of two", x.bound(5, 5), 4294967294L);
        due("bound of two: penalties stay", x.forgive(), 0);
        due("OUTSIDE for two", x.bound(101, 5), OUTSIDE);
        x = of("^3:3,4;5;");
        due("bound of three", x.bound(3, 7), 12);
        x.set(0, 0, 1, false);
        due("OUTSIDE before STATE", x.bound(0, 5), OUTSIDE);
        due("bound STATE", x.bound(1, 5), STATE);
    }

    /** A star round city 1, which has three edges in each one-tree: its penalty tells the steps. */
    private static RoundTours star() {
        return of("^4:1000,2000,2000;1000,1000;2000;");
    }

    private static void boundSteps() {
        int[][] want = {{1, 4}, {9, 36}, {10, 40}, {11, 42}, {20, 60}, {21, 61}, {30, 70}, {31, 70}, {100, 70}};
        for (int[] w : want) {
            RoundTours x = star();
            x.bound(w[0], 4);
            due("penalty 1 behind " + w[0] + " rounds", x.penalty(1), w[1]);
        }
        RoundTours x = star();
        x.bound(10, 5);
        x.bound(11, 5);
        due("a new bound begins with its own step", x.penalty(1), 50 + 50 + 2);
    }

    private static void penalties() {
        RoundTours x = of("^4:2,2,2;1,1;2;");
        x.bound(1, 5);
        due("penalty -1", x.penalty(-1), 0);
        due("penalty 4", x.penalty(4), 0);
        due("forgive", x.forgive(), 2);
        due("forgiven", x.penalty(1), 0);
        due("forgive again", x.forgive(), 0);
        x.bound(1, 5);
        x.tree();
        x.build(0, 0);
        x.best();
        x.better(2, 9);
        due("penalties stay", x.penalty(1), 5);
        due("a tour stays", x.bound(1, 0), -3);
        due("a tour stays behind bound and forgive", x.forgive() + x.length(), 2 + 6);
    }
}
