/** The tape, and the texts that are read from it. */
final class LimitsOfTexts extends Limits {
    private static final long EIGHT_SPACES = 0x2020202020202020L;

    @Says(promise = 3, words = "The lowest n bytes of signs, the highest of them first, "
            + "come behind the tape: how many it has.")
    static void typeTakesTheLowestBytes() {
        RoundTours x = new RoundTours();
        // "^2:7" comes from four bytes below four wrong ones, ";" from one below seven wrong ones.
        due("type of four", x.type(0xffff0a005e323a37L, 4), 4);
        due("type of one", x.type(0x00ff00ff00ff003bL, 1), 5);
        due("read()", x.read(), 2);
        due("distance(0, 1)", x.distance(0, 1), 7);
        // "=1:4567;" in one call
        due("type of eight", x.type(0x3d313a343536373bL, 8), 8);
        due("read()", x.read(), 1);
        due("distance(0, 0)", x.distance(0, 0), 4567);
    }

    @Says(promise = 3, words = "OUTSIDE (n 1 .. 8;")
    static void typeOfTooFewOrTooMany() {
        RoundTours x = new RoundTours();
        for (int n : new int[] {0, -1, 9, 10, TOP, BOTTOM}) {
            due("type(.., " + n + ")", x.type(EIGHT_SPACES, n), OUTSIDE);
        }
        due("clear() behind refused calls", x.clear(), 0);
        due("type(.., 1)", x.type(EIGHT_SPACES, 1), 1);
        due("type(.., 8)", x.type(EIGHT_SPACES, 8), 9);
    }

    @Says(promise = 3, words = "a byte that is not 32 .. 126),")
    static void typeOfWrongBytes() {
        RoundTours x = new RoundTours();
        for (int b : new int[] {0, 31, 127, 128, 160, 255}) {
            for (int i = 0; i < 8; i++) {
                long signs = EIGHT_SPACES & ~(255L << 8 * i) | (long) b << 8 * i;
                due("type with " + b + " at " + i, x.type(signs, 8), OUTSIDE);
                due("type of the bytes below it", i == 0 ? OUTSIDE : x.type(signs, i), i == 0 ? OUTSIDE : i);
                due("clear()", x.clear(), i);
            }
        }
        due("type(32, 1)", x.type(32, 1), 1);
        due("type(126, 1)", x.type(126, 1), 2);
        due("type(-1, 8)", x.type(-1L, 8), OUTSIDE);
        due("clear()", x.clear(), 2);
    }

    /** All 512 calls can type 4096 signs; behind them the program goes on as told, so this is asked, too. */
    @Says(promise = 3, words = "ROOM (there would be more than 5000).")
    static void typeUpToTheMost() {
        RoundTours x = new RoundTours();
        for (int call = 1; call <= 624; call++) {
            due("type(.., 8), call " + call, x.type(EIGHT_SPACES, 8), 8 * call);
        }
        due("type(.., 4)", x.type(EIGHT_SPACES, 4), 4996);
        due("type(.., 5) to 5001", x.type(EIGHT_SPACES, 5), ROOM);
        due("type(.., 8) to 5004", x.type(EIGHT_SPACES, 8), ROOM);
        due("type(.., 9)", x.type(EIGHT_SPACES, 9), OUTSIDE);
        due("type(.., 4) to 5000", x.type(EIGHT_SPACES, 4), 5000);
        due("type(.., 1) to 5001", x.type(EIGHT_SPACES, 1), ROOM);
        due("clear()", x.clear(), 5000);
        due("type(.., 1)", x.type(EIGHT_SPACES, 1), 1);
    }

    @Says(promise = 4, words = "The tape is empty: how many it had.")
    static void clearOfNothingAndOfMuch() {
        RoundTours x = new RoundTours();
        due("clear() of nothing", x.clear(), 0);
        for (int call = 0; call < 500; call++) {
            x.type(EIGHT_SPACES, 8);
        }
        due("clear() of much", x.clear(), 4000);
        due("clear() again", x.clear(), 0);
        due("read() behind it", x.read(), -1000);
        x = allMade();
        x.type('=', 1);
        due("clear() of one", x.clear(), 1);
        dueAllStays("behind clear():", x);
    }

    @Says(promise = 5, words = "The tape is read as a TEXT, which becomes the matrix,")
    static void readOfFewAndMany() {
        RoundTours x = of(allAlike(MOST_CITIES, 9));
        due("distance(19, 18)", x.distance(19, 18), 9);
        due("read() of one city", Typing.read(x, "=1:5;"), 1);
        due("cities()", x.cities(), 1);
        due("distance(0, 0)", x.distance(0, 0), 5);
        due("distance(1, 0)", x.distance(1, 0), UNKNOWN);
    }

    @Says(promise = 5, words = "and is empty then (behind a FAULT, too): n;")
    static void readEmptiesTheTape() {
        RoundTours x = of(LINE);
        due("clear() behind a text", x.clear(), 0);
        due("read() of what can't stand", Typing.read(x, "=1:0;x"), -1005);
        due("clear() behind a fault", x.clear(), 0);
        due("read() of an unfit number", Typing.read(x, "=1:9999999999;"), -1003);
        due("clear() behind an unfit number", x.clear(), 0);
        due("read() of an unfit n", Typing.read(x, "=0:"), -1001);
        due("clear() behind an unfit n", x.clear(), 0);
    }

    @Says(promise = 5, words = "or -1000 less the place (from 0) of its FAULT:")
    static void readTellsFirstAndFarPlaces() {
        dueFault("", 0);
        dueFault("x", 0);
        dueFault("=x", 1);
        RoundTours x = new RoundTours();
        for (int call = 0; call < 510; call++) {
            x.type(EIGHT_SPACES, 8);
        }
        // "=1:0;  x" are the last eight of 4088 signs.
        due("type", x.type(0x3d313a303b202078L, 8), 4088);
        due("read()", x.read(), -1000 - 4087);
    }

    @Says(promise = 5, words = "the matrix stays.")
    static void readLeavesTheMatrixBehindAFault() {
        RoundTours x = allMade();
        for (String text : new String[] {"", "x", "=0:", "=2:0,1;1,0", "=1:0;;", "^2:2147483648;", "+1:0,1000001;"}) {
            due("read() of " + text + " is a fault", Typing.read(x, text) <= -1000 ? 1 : 0, 1);
            dueAllStays("behind " + text + ":", x);
        }
    }

    @Says(promise = 5, words = "A TEXT: one sign for its FORM, a number n, a :, and what the form wants;")
    static void readOfTheFourForms() {
        dueRead("=1:0;", 1);
        dueRead("^1:", 1);
        dueRead("+1:0,0;", 1);
        dueRead("*1:0,0;", 1);
        for (char sign = 33; sign < 127; sign++) {
            if ("=^+*".indexOf(sign) < 0) {
                dueFault(sign + "1:0;", 0);
            }
        }
        dueFault("==1:0;", 1);
        dueFault("1:0;", 0);
        dueFault("=:0;", 1);
        dueFault("=1 0;", 3);
        dueFault("=1::0;", 3);
    }

    @Says(promise = 5, words = "spaces (32) may stand between any two of these, of numbers and of the "
            + "signs told below, before and behind all.")
    static void readOfSpaces() {
        String[] texts = {"=2:1,2;3,4;", "^3:1,2;3;", "+2:1,2;3,4;", "*2:1,2;3,4;", "^1:"};
        for (String text : texts) {
            int n = text.charAt(1) - '0';
            for (int i = 0; i <= text.length(); i++) {
                dueRead(text.substring(0, i) + " " + text.substring(i), n);
            }
            dueRead("  " + text.replaceAll("(.)", "$1   "), n);
        }
        RoundTours x = new RoundTours();
        Typing.read(x, " = 2 : 1 , 2 ; 3 , 4 ; ");
        due("distance(1, 0)", x.distance(1, 0), 3);
        dueFault("=1:1 2;", 5);
        dueFault("=1 1:0;", 3);
        dueFault("+1 0:0,0;", 3);
    }

    @Says(promise = 5, words = "= n rows of n numbers with , between two, ; behind each row: all distances.")
    static void readOfRows() {
        RoundTours x = of("=1:7;");
        due("distance(0, 0) of one", x.distance(0, 0), 7);
        StringBuilder most = new StringBuilder("=20:");
        for (int i = 0; i < 400; i++) {
            most.append(i % 10).append(i % 20 == 19 ? ";" : ",");
        }
        x = of(most.toString());
        due("distance(0, 0) of twenty", x.distance(0, 0), 0);
        due("distance(0, 19) of twenty", x.distance(0, 19), 9);
        due("distance(19, 0) of twenty", x.distance(19, 0), 0);
        due("distance(19, 19) of twenty", x.distance(19, 19), 9);
        dueFault("=2:0;", 4);
        dueFault("=2:0,1,", 6);
        dueFault("=2:0,1,0,1;", 6);
        dueFault("=2:,0,1;", 3);
        dueFault("=2:0,1;;", 7);
        dueFault("=2:0,1;2,3;4", 11);
        dueFault(most.substring(0, most.length() - 1), most.length() - 1);
    }

    @Says(promise = 5, words = "^ n - 1 rows likewise, the one of city a (0, 1, ..) having n - 1 - a numbers: "
            + "the distances from a to a + 1, .., both ways, those to itself being 0")
    static void readOfShorterRows() {
        RoundTours x = of("^2:7;");
        due("distance(0, 1) of two", x.distance(0, 1), 7);
        due("distance(1, 0) of two", x.distance(1, 0), 7);
        due("distance(1, 1) of two", x.distance(1, 1), 0);
        Typing.read(x, "=3:9,9,9;9,9,9;9,9,9;");
        due("read()", Typing.read(x, "^3:1,2;3;"), 3);
        int[][] want = {{0, 1, 2}, {1, 0, 3}, {2, 3, 0}};
        for (int a = 0; a < 3; a++) {
            for (int b = 0; b < 3; b++) {
                due("distance(" + a + ", " + b + ")", x.distance(a, b), want[a][b]);
            }
        }
        String most = allAlike(MOST_CITIES, 9).replaceAll("9;$", "8;");
        x = of(most);
        due("distance(0, 19) of twenty", x.distance(0, 19), 9);
        due("distance(19, 18) of twenty", x.distance(19, 18), 8);
        dueFault("^2:;", 3);
        dueFault("^2:7,", 4);
        dueFault("^3:1;", 4);
        dueFault("^3:1,2;3,", 8);
        dueFault("^3:1,2;3;;", 9);
        dueFault("^3:1,2;3;0", 9);
    }

    @Says(promise = 5, words = "(for one city none).")
    static void readOfNoRows() {
        RoundTours x = of("=1:7;");
        due("read()", Typing.read(x, "^1:"), 1);
        due("distance(0, 0)", x.distance(0, 0), 0);
        dueRead("^1: ", 1);
        dueFault("^1:;", 3);
        dueFault("^1:0;", 3);
    }

    @Says(promise = 5, words = "+ n points, each two numbers with , between and ; behind: "
            + "distances are that in x plus that in y.")
    static void readOfPoints() {
        RoundTours x = of("+4:0,0;1000000,1000000;1000000,0;0,0;");
        due("distance(0, 1)", x.distance(0, 1), 2000000);
        due("distance(1, 0)", x.distance(1, 0), 2000000);
        due("distance(1, 2)", x.distance(1, 2), 1000000);
        due("distance(2, 3)", x.distance(2, 3), 1000000);
        due("distance(0, 3)", x.distance(0, 3), 0);
        due("distance(1, 1)", x.distance(1, 1), 0);
        dueRead("+20:" + "7,9;".repeat(20), 20);
        dueFault("+20:" + "7,9;".repeat(19), 80);
        dueFault("+20:" + "7,9;".repeat(21), 84);
        dueFault("+1:0;", 4);
        dueFault("+1:0,0,0;", 6);
        dueFault("+1:,0;", 3);
    }

    @Says(promise = 5, words = "* the same, but the least whole number whose square is at least the "
            + "sum of both squares.")
    static void readOfStraightDistances() {
        dueStraight(0, 0, 0);
        dueStraight(0, 1, 1);
        dueStraight(1, 1, 2);
        dueStraight(3, 4, 5);
        dueStraight(3, 5, 6);
        dueStraight(2, 4, 5);
        dueStraight(1000000, 0, 1000000);
        dueStraight(1000000, 1, 1000001);
        dueStraight(600000, 800000, 1000000);
        dueStraight(600000, 800001, 1000001);
        dueStraight(599999, 800000, 1000000);
        dueStraight(1000000, 1000000, 1414214);
        dueFault("*1:0;", 4);
        dueFault("*2:0,0;", 7);
        dueRead("*20:" + "7,9;".repeat(20), 20);
    }

    private static void dueStraight(int x, int y, int far) {
        RoundTours t = of("*3:0," + y + ";" + x + ",0;0," + y + ";");
        due("distance by " + x + ", " + y, t.distance(0, 1), far);
        due("distance back", t.distance(1, 2), far);
        due("distance to the same point", t.distance(0, 2), 0);
        due("distance to itself", t.distance(1, 1), 0);
    }

    @Says(promise = 5, words = "A NUMBER is one to ten digits.")
    static void readOfDigits() {
        dueRead("=1:0;", 1);
        dueRead("=0000000001:0000000000;", 1);
        dueRead("+0000000001:0001000000,0000000000;", 1);
        RoundTours x = of("=1:2147483647;");
        due("distance(0, 0)", x.distance(0, 0), TOP);
        due("read()", Typing.read(x, "=1:0000000012;"), 1);
        due("distance(0, 0)", x.distance(0, 0), 12);
        dueFault("=:0;", 1);
        dueFault("=1:;", 3);
        dueFault("+1:,;", 3);
        dueFault("+1:0,;", 5);
        dueFault("=1:-1;", 3);
        dueFault("=1:+1;", 3);
        dueFault("=1:1.0;", 4);
    }

    @Says(promise = 5, words = "FAULTS: the first sign that cannot stand where it is")
    static void readOfWrongSigns() {
        String text = "=2:0,1;2,3;";
        for (int i = 0; i < text.length(); i++) {
            dueFault(text.substring(0, i) + "x" + text.substring(i), i);
            dueFault(text.substring(0, i) + "  x", i + 2);
        }
        dueFault("=2:0,1;2,3;x", 11);
        dueFault("=2:0,1;2,3;  =", 13);
        dueFault("=2:x,x", 3);
        // Signs stand before numbers that are not as told.
        dueFault("=1:9999999999;x", 14);
        dueFault("=2:9999999999,0;0;", 17);
    }

    @Says(promise = 5, words = "(also an eleventh digit),")
    static void readOfElevenDigits() {
        dueFault("=00000000001:0;", 11);
        dueFault("=12345678901:0;", 11);
        dueFault("  =00000000001:0;", 13);
        dueFault("=1:00000000000;", 13);
        dueFault("=2:0,10000000000", 15);
        dueFault("+1:0,00000000000000;", 15);
        dueFault("=9999999999999", 11);
    }

    @Says(promise = 5, words = "or the text's end if it ends too early;")
    static void readOfTextsThatEndTooEarly() {
        for (String text : new String[] {"=2:0,1;2,3;", "^3:1,2;3;", "+2:0,0;1,1;", "*1:10,20;"}) {
            for (int end = 0; end < text.length(); end++) {
                dueFault(text.substring(0, end), end);
                dueFault(text.substring(0, end) + "  ", end + 2);
            }
        }
        dueFault("=1:9999999999", 13);
        dueFault("=21", 3);
    }

    @Says(promise = 5, words = "the text's end if it ends too early;")
    static void readNoSignsOfEarlierTexts() {
        String text = "=2:0,12;2,3;";
        for (int end = 0; end < text.length(); end++) {
            RoundTours x = of(text);
            due("read() of less", Typing.read(x, text.substring(0, end)), -1000 - end);
            Typing.type(x, text);
            x.clear();
            due("read() of less behind clear()", Typing.read(x, text.substring(0, end)), -1000 - end);
        }
    }

    @Says(promise = 5, words = "if there is none, the first digit of the first number that is not as told:")
    static void readOfTwoUnfitNumbers() {
        dueFault("=2:0,9999999999;9999999999,0;", 5);
        dueFault("=2:0,0;9999999999,9999999998;", 7);
        dueFault("=2:0, 9999999999 ;0,0;", 6);
        dueFault("+1:  0001000001,0;", 5);
        dueFault("+1:0,9999999999;", 5);
        dueFault("=  21  :", 3);
    }

    @Says(promise = 5, words = "n not 1 .. 20,")
    static void readOfTooFewOrTooManyCities() {
        for (char form : new char[] {'=', '^', '+', '*'}) {
            for (String n : new String[] {"0", "00", "0000000000", "21", "0000000021", "99", "9999999999", "4294967297"}) {
                dueFault(form + n + ":", 1);
            }
        }
        dueRead("^1:", 1);
        dueRead(allAlike(MOST_CITIES, 1), MOST_CITIES);
        dueRead(allAlike(MOST_CITIES, 1).replace("20", "00020"), MOST_CITIES);
    }

    @Says(promise = 5, words = "a distance above 2147483647,")
    static void readOfTooFar() {
        for (String far : new String[] {"2147483648", "2147483649", "4294967295", "4294967296", "9999999999"}) {
            dueFault("=1:" + far + ";", 3);
            dueFault("^2:" + far + ";", 3);
            dueFault("=2:0,0;0," + far + ";", 9);
            dueFault("^3:0,0;" + far + ";", 7);
        }
        dueRead("=1:2147483647;", 1);
        dueRead("^2:2147483647;", 2);
    }

    @Says(promise = 5, words = "a point's number above 1000000.")
    static void readOfPointsTooFarOut() {
        for (char form : new char[] {'+', '*'}) {
            for (String far : new String[] {"1000001", "2147483647", "2147483648", "4294967296", "9999999999"}) {
                dueFault(form + "1:" + far + ",0;", 3);
                dueFault(form + "1:0," + far + ";", 5);
                dueFault(form + "2:0,0;1," + far + ";", 9);
            }
            dueRead(form + "1:1000000,1000000;", 1);
        }
        dueRead("=1:1000001;", 1);
    }

    @Says(promise = 5, words = "(How many numbers are wanted is told by the n that is written, also if it is "
            + "not 1 .. 20: then what stands behind the : is looked at no more.)")
    static void readNoMoreBehindAnUnfitNumberOfCities() {
        dueFault("=0:what stands here", 1);
        dueFault("=21:what stands here", 1);
        dueFault("^0:00000000000", 1);
        dueFault(" +9999999999:;;;", 2);
        dueFault("=21what stands here", 3);
        dueFault("=21 ", 4);
        dueFault("=3:0,1;2,3;", 6);
        dueFault("=1:0,1;2,3;", 4);
    }
}
