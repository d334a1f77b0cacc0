/** For each promise of the document calls with the answers that are due: ordinary ones, edges, wrong numbers. */
public final class PromiseTest {
    private static final int NONE = ShadowHerds.NONE;
    private static final int NOTHING = ShadowHerds.NOTHING;
    private static final int LEAST = Integer.MIN_VALUE;
    private static final int MOST = Integer.MAX_VALUE;
    private static final long ALL = 1_000_000_000_000L;

    private static int wrong = 0;
    private static int asked = 0;
    private static int promise = 0;

    private static void due(String what, long got, long want) {
        asked++;
        if (got != want) {
            wrong++;
            System.out.println("promise " + promise + ": " + what + " answered " + got + ", due is " + want);
        }
    }

    /** The tape has that text alone then. */
    private static void tape(ShadowHerds x, String text) {
        x.end(0);
        for (int i = 0; i < text.length(); i += 20) {
            int[] n = new int[5];
            for (int k = 0; k < 20; k++) {
                n[k / 4] = n[k / 4] << 8 | (i + k < text.length() ? text.charAt(i + k) & 255 : 0);
            }
            x.feed(n[0], n[1], n[2], n[3], n[4]);
        }
        x.end(text.length());
    }

    private static int law(ShadowHerds x, String text) {
        tape(x, text);
        return x.law();
    }

    private static int drives(ShadowHerds x, String text) {
        tape(x, text);
        return x.drives();
    }

    private static int row(ShadowHerds x, int... bytes) {
        StringBuilder text = new StringBuilder();
        for (int b : bytes) {
            text.append((char) b);
        }
        tape(x, text.toString());
        return x.row();
    }

    /** A plain under that law. */
    private static ShadowHerds under(String text) {
        ShadowHerds x = new ShadowHerds();
        due("law of " + text, law(x, text), 0);
        x.force(0);
        return x;
    }

    /** A plain with one cloud of one field at 3, 3, without wind. */
    private static ShadowHerds still() {
        ShadowHerds x = new ShadowHerds();
        x.cloud(1, 1, 0, 3, 3);
        return x;
    }

    /** What drives answer, and where they fault or stop, on a new plain with one still cloud. */
    private static void run(String text, int answer, int fault, int stopped) {
        ShadowHerds x = still();
        due("drives of " + text, drives(x, text), answer);
        due("fault of " + text, x.fault(), fault);
        due("stopped of " + text, x.stopped(), stopped);
        due("flags after " + text, x.count(1), Math.max(0, answer));
        due("status after " + text, x.status(), Math.min(0, answer));
    }

    private static void read(String text, int fault) {
        ShadowHerds x = new ShadowHerds();
        due("law of " + text, law(x, text), fault == NONE ? 0 : -6);
        due("fault of " + text, x.fault(), fault);
        due("laws after " + text, x.count(4), fault == NONE ? 1 : 0);
        due("bytes after " + text, x.count(5), 0);
    }

    /** What a field's shade is worth by a sum. */
    private static void worth(String sum, int want) {
        due("worth of " + sum, under("worth " + sum).asks(11, 5, 3), want);
    }

    /** Whether a test is so for field 3, 1 in hour 5. */
    private static void so(String test, boolean want) {
        due("test " + test, under("worth 7 if " + test).asks(11, 5, 3), want ? 7 : 1);
    }

    public static void main(String[] args) {
        Runnable[] all = {PromiseTest::newObject, PromiseTest::put, PromiseTest::fact, PromiseTest::wind, PromiseTest::cloud,
            PromiseTest::of, PromiseTest::flag, PromiseTest::undo, PromiseTest::contract, PromiseTest::cancel,
            PromiseTest::terms, PromiseTest::feed, PromiseTest::end, PromiseTest::row, PromiseTest::haze, PromiseTest::law,
            PromiseTest::drives, PromiseTest::fault, PromiseTest::stopped, PromiseTest::force, PromiseTest::asks,
            PromiseTest::at, PromiseTest::dark, PromiseTest::heat, PromiseTest::scorched, PromiseTest::broken,
            PromiseTest::judge, PromiseTest::drive, PromiseTest::pasture, PromiseTest::serve, PromiseTest::cross,
            PromiseTest::part, PromiseTest::likely, PromiseTest::surest, PromiseTest::steer, PromiseTest::sight,
            PromiseTest::forget, PromiseTest::stray, PromiseTest::rustled, PromiseTest::men, PromiseTest::duel,
            PromiseTest::summer, PromiseTest::drawn, PromiseTest::image, PromiseTest::back, PromiseTest::count,
            PromiseTest::status};
        for (Runnable test : all) {
            promise++;
            int before = asked;
            test.run();
            if (asked == before) {
                due("asked", 0, 1);
            }
        }
        if (promise != 47) {
            wrong++;
            System.out.println("there are tests for " + promise + " promises");
        }
        System.out.println(wrong == 0 ? asked + " answers are as promised" : wrong + " answers are not as promised");
        if (wrong != 0) {
            System.exit(1);
        }
    }

    private static void newObject() {
        ShadowHerds x = new ShadowHerds();
        int[] counts = {0, 0, 0, 0, 0, 0, 0, 0, 0, 0, 0, NONE, 0, 2, 0, NONE};
        for (int i = 0; i < counts.length; i++) {
            due("count(" + i + ")", x.count(i), counts[i]);
        }
        for (int f = 0; f < 64; f++) {
            due("heat of " + f, x.fact(f, 0), 0);
            due("limit of " + f, x.fact(f, 1), 100);
            due("water of " + f, x.fact(f, 2), 0);
        }
        due("status()", x.status(), 0);
        due("fault()", x.fault(), NONE);
        due("stopped()", x.stopped(), NONE);
        due("haze()", x.haze(), 0);
        due("drawn(0)", x.drawn(0), NONE);
        due("men()", x.men(), 0);
        due("dark(11)", x.dark(11), 0);
        due("NONE", ShadowHerds.NONE, -1);
        due("NOTHING", ShadowHerds.NOTHING, -1000);
    }

    private static void put() {
        ShadowHerds x = new ShadowHerds();
        due("put heat", x.put(0, 0, 99), 0);
        due("put heat again", x.put(0, 0, 0), 99);
        due("put limit", x.put(63, 1, 999), 100);
        due("put limit again", x.put(63, 1, 1), 999);
        due("put water", x.put(7, 2, 1), 0);
        due("put water again", x.put(7, 2, 0), 1);
        int[][] bad = {{-1, 0, 0}, {64, 0, 0}, {0, -1, 0}, {0, 3, 0}, {0, 0, 100}, {0, 0, -1}, {0, 1, 0}, {0, 1, 1000},
            {0, 2, 2}, {0, 2, -1}, {LEAST, 0, 0}, {MOST, 0, 0}, {0, LEAST, 0}, {0, MOST, 0}, {0, 1, MOST}};
        for (int[] b : bad) {
            due("put(" + b[0] + ", " + b[1] + ", " + b[2] + ")", x.put(b[0], b[1], b[2]), -1);
            due("status", x.status(), -1);
        }
        due("refused", x.count(6), bad.length);
        due("fact(0, 0) is left", x.fact(0, 0), 0);
        due("fact(0, 1) is left", x.fact(0, 1), 100);
        x.put(1, 0, 1);
        due("status", x.status(), 0);
    }

    private static void fact() {
        ShadowHerds x = new ShadowHerds();
        x.put(9, 0, 5);
        x.put(9, 1, 6);
        x.put(9, 2, 1);
        due("heat", x.fact(9, 0), 5);
        due("limit", x.fact(9, 1), 6);
        due("water", x.fact(9, 2), 1);
        due("another", x.fact(10, 1), 100);
        int[][] bad = {{-1, 0}, {64, 0}, {9, -1}, {9, 3}, {LEAST, MOST}, {MOST, LEAST}};
        for (int[] b : bad) {
            due("fact(" + b[0] + ", " + b[1] + ")", x.fact(b[0], b[1]), NONE);
        }
        due("nothing is refused", x.count(6), 0);
    }

    private static void wind() {
        ShadowHerds x = new ShadowHerds();
        x.cloud(1, 1, 2, 3, 3);
        x.cloud(1, 1, 1, 3, 3);
        due("wind(2, -1, 1)", x.wind(2, -1, 1), 0);
        due("x by the wind of its layer", x.at(0, 3, 0), 0);
        due("y by the wind of its layer", x.at(0, 3, 1), 6);
        due("x of another layer", x.at(1, 3, 0), 3);
        due("wind(2, 0, 0)", x.wind(2, 0, 0), 0);
        due("x without wind", x.at(0, 11, 0), 3);
        int[][] bad = {{-1, 0, 0}, {3, 0, 0}, {0, -2, 0}, {0, 2, 0}, {0, 0, -2}, {0, 0, 2}, {LEAST, 0, 0}, {0, MOST, 0}};
        for (int[] b : bad) {
            due("wind(" + b[0] + ", " + b[1] + ", " + b[2] + ")", x.wind(b[0], b[1], b[2]), -1);
        }
        due("refused", x.count(6), bad.length);
        due("status", x.status(), -1);
        due("x is left", x.at(1, 11, 0), 3);
    }

    private static void cloud() {
        ShadowHerds x = new ShadowHerds();
        due("the first", x.cloud(1, 1, 0, -8, -8), 0);
        due("the second", x.cloud(3, 3, 2, 15, 15), 1);
        int[][] bad = {{0, 1, 0, 0, 0}, {4, 1, 0, 0, 0}, {1, 0, 0, 0, 0}, {1, 4, 0, 0, 0}, {1, 1, -1, 0, 0}, {1, 1, 3, 0, 0},
            {1, 1, 0, -9, 0}, {1, 1, 0, 16, 0}, {1, 1, 0, 0, -9}, {1, 1, 0, 0, 16}, {MOST, MOST, MOST, MOST, MOST}};
        for (int[] b : bad) {
            due("a cloud of " + java.util.Arrays.toString(b), x.cloud(b[0], b[1], b[2], b[3], b[4]), -1);
        }
        due("the third", x.cloud(1, 2, 1, 0, 7), 2);
        due("the fourth", x.cloud(1, 1, 1, 0, 7), 3);
        due("the fifth", x.cloud(1, 1, 1, 0, 7), 4);
        due("the sixth", x.cloud(1, 1, 1, 0, 7), -5);
        due("status", x.status(), -5);
        due("a wrong number ahead of no room", x.cloud(1, 1, 1, 0, 16), -1);
        due("refused by -1", x.count(6), bad.length + 1);
        due("refused by -5", x.count(9), 1);
        due("clouds", x.count(0), 5);
    }

    private static void of() {
        ShadowHerds x = new ShadowHerds();
        x.cloud(3, 2, 1, -8, 15);
        x.cloud(1, 3, 2, 4, -1);
        int[][] facts = {{3, 2, 1, -8, 15}, {1, 3, 2, 4, -1}};
        for (int c = 0; c < 2; c++) {
            for (int what = 0; what < 5; what++) {
                due("of(" + c + ", " + what + ")", x.of(c, what), facts[c][what]);
            }
        }
        due("of a cloud that is not", x.of(2, 0), NOTHING);
        due("of a cloud below 0", x.of(-1, 0), NOTHING);
        due("what 5", x.of(0, 5), NOTHING);
        due("what -1", x.of(0, -1), NOTHING);
        due("far off", x.of(MOST, LEAST), NOTHING);
        x.wind(2, 1, 0);
        due("at hour 0 still", x.of(1, 3), 4);
    }

    private static void flag() {
        ShadowHerds x = new ShadowHerds();
        due("no cloud", x.flag(0, 0, 0), -2);
        x.cloud(1, 1, 0, 3, 3);
        int[][] bad = {{-1, 0, 0}, {11, 0, 0}, {0, 0, -1}, {0, 0, 4}, {LEAST, 0, 0}, {0, 0, MOST}, {11, 9, 0}};
        for (int[] b : bad) {
            due("flag(" + b[0] + ", " + b[1] + ", " + b[2] + ")", x.flag(b[0], b[1], b[2]), -1);
        }
        due("no such cloud", x.flag(0, 1, 0), -2);
        due("a cloud below 0", x.flag(0, -1, 0), -2);
        due("a cloud far off", x.flag(0, MOST, 0), -2);
        int[] stepX = {0, 1, 0, -1};
        int[] stepY = {-1, 0, 1, 0};
        for (int d = 0; d < 4; d++) {
            ShadowHerds y = still();
            due("flag", y.flag(10, 0, d), 1);
            due("x ahead", y.at(0, 10, 0), 3);
            due("x by " + d, y.at(0, 11, 0), 3 + stepX[d]);
            due("y by " + d, y.at(0, 11, 1), 3 + stepY[d]);
        }
        due("flag(0)", x.flag(0, 0, 1), 1);
        due("the same cloud and hour", x.flag(0, 0, 2), -3);
        due("status", x.status(), -3);
        due("another hour", x.flag(10, 0, 1), 2);
        x.cloud(1, 1, 0, 3, 3);
        x.cloud(1, 1, 0, 3, 3);
        due("another cloud", x.flag(0, 1, 3), 3);
        for (int i = 3; i < 24; i++) {
            due("flag " + i, x.flag(i % 7 + 2, i < 10 ? 0 : i < 17 ? 1 : 2, 0), i + 1);
        }
        due("the 25th", x.flag(10, 2, 0), -5);
        due("a told one ahead of no room", x.flag(0, 0, 0), -3);
        due("flags", x.count(1), 24);
        due("refused by -1", x.count(6), bad.length);
        due("refused by -2", x.count(7), 4);
        due("refused by -3", x.count(8), 2);
        due("refused by -5", x.count(9), 1);
        due("x of the first", x.at(0, 1, 0), 4);
    }

    private static void undo() {
        ShadowHerds x = still();
        due("none", x.undo(), -3);
        due("status", x.status(), -3);
        due("refused", x.count(8), 1);
        x.flag(4, 0, 1);
        x.flag(2, 0, 2);
        due("the latest", x.undo(), 2);
        due("status", x.status(), 0);
        due("flags", x.count(1), 1);
        due("y", x.at(0, 11, 1), 3);
        due("x", x.at(0, 11, 0), 4);
        drives(x, "flag 0 to 0 at 7; flag 0 to 0 at 5");
        due("by drives, too", x.undo(), 5);
        due("by drives, too", x.undo(), 7);
        due("the first", x.undo(), 4);
        due("none left", x.undo(), -3);
        due("it can be told again", x.flag(4, 0, 1), 1);
    }

    private static void contract() {
        ShadowHerds x = new ShadowHerds();
        due("the first", x.contract(0, 0, 0, 0, 1), 0);
        due("the second", x.contract(63, 11, 11, 1, 99), 1);
        int[][] bad = {{-1, 0, 0, 1, 1}, {64, 0, 0, 1, 1}, {0, -1, 0, 1, 1}, {0, 12, 12, 1, 1}, {0, 3, 2, 1, 1},
            {0, 0, 12, 1, 1}, {0, 0, 0, -1, 1}, {0, 0, 0, 2, 1}, {0, 0, 0, 1, 0}, {0, 0, 0, 1, 100}, {0, LEAST, MOST, 1, 1}};
        for (int[] b : bad) {
            due("a contract of " + java.util.Arrays.toString(b), x.contract(b[0], b[1], b[2], b[3], b[4]), -1);
        }
        for (int i = 2; i < 8; i++) {
            due("contract " + i, x.contract(i, 0, 11, 1, i), i);
        }
        due("the ninth", x.contract(0, 0, 0, 0, 1), -5);
        due("status", x.status(), -5);
        due("a wrong one", x.contract(0, 0, 0, 0, 0), -1);
        due("contracts", x.count(2), 8);
        due("refused by -1", x.count(6), bad.length + 1);
    }

    private static void cancel() {
        ShadowHerds x = new ShadowHerds();
        due("none", x.cancel(), 0);
        x.contract(0, 0, 0, 0, 5);
        x.contract(1, 0, 0, 1, 5);
        x.undo();
        due("two", x.cancel(), 2);
        due("none then", x.count(2), 0);
        due("status is of undo", x.status(), -3);
        due("judge(0)", x.judge(0), NONE);
        due("judge(1)", x.judge(1), 0);
        due("broken(0)", x.broken(0), NONE);
        due("the next one", x.contract(0, 0, 0, 0, 5), 0);
    }

    private static void terms() {
        ShadowHerds x = new ShadowHerds();
        due("day", x.terms(0, 99), 0);
        due("day again", x.terms(0, 0), 99);
        due("veer", x.terms(1, 10), 2);
        due("veer again", x.terms(1, 0), 10);
        due("mood", x.terms(2, 9), 0);
        due("mood again", x.terms(2, 0), 9);
        int[][] bad = {{-1, 0}, {3, 0}, {0, -1}, {0, 100}, {1, -1}, {1, 11}, {2, -1}, {2, 10}, {LEAST, 0}, {MOST, 0}};
        for (int[] b : bad) {
            due("terms(" + b[0] + ", " + b[1] + ")", x.terms(b[0], b[1]), -1);
        }
        due("refused", x.count(6), bad.length);
        due("status", x.status(), -1);
        ShadowHerds y = under("worth day + 10 * mood");
        y.terms(0, 7);
        y.terms(2, 4);
        due("the law hears them", y.asks(0, 0, 3), 47);
    }

    private static void feed() {
        ShadowHerds x = new ShadowHerds();
        due("twenty bytes", x.feed(0x00320000, 0, 0x07ffffff, -1, LEAST), 20);
        due("the highest first", x.row(), 3 - 1);
        due("x 0", x.fact(0, 1), 50);
        due("x 7", x.fact(7, 1), 7);
        due("x 1", x.fact(1, 1), 100);
        for (int i = 1; i <= 20; i++) {
            due("more", x.feed(i, i, i, i, i), 20 * i);
        }
        due("too many", x.feed(0, 0, 0, 0, 0), NONE);
        due("bytes", x.count(5), 400);
        x.end(381);
        due("too many by one", x.feed(0, 0, 0, 0, 0), NONE);
        due("bytes are left", x.count(5), 381);
        x.end(380);
        due("just not too many", x.feed(0, 0, 0, 0, 0), 400);
        due("nothing is refused", x.status(), 0);
    }

    private static void end() {
        ShadowHerds x = new ShadowHerds();
        due("0 of none", x.end(0), 0);
        due("1 of none", x.end(1), NONE);
        x.feed(0x01020304, 0x05060708, 0x090a0b0c, 0, 0);
        due("too many", x.end(21), NONE);
        due("below 0", x.end(-1), NONE);
        due("far below", x.end(LEAST), NONE);
        due("all", x.end(20), 20);
        due("three", x.end(3), 3);
        due("not back again", x.end(4), NONE);
        due("bytes", x.count(5), 3);
        due("limits of them", x.row(), 2);
        due("x 0 of y 1", x.fact(8, 1), 2);
        due("x 1 of y 1", x.fact(9, 1), 3);
        due("x 2 of y 1", x.fact(10, 1), 100);
    }

    private static void row() {
        ShadowHerds x = new ShadowHerds();
        due("an empty tape", x.row(), -6);
        due("status", x.status(), -6);
        due("a row of y 7", row(x, 7, 1, 0, 255, 4, 5, 6, 7, 8), 7);
        due("status", x.status(), 0);
        int[] limits = {1, 100, 255, 4, 5, 6, 7, 8};
        for (int i = 0; i < 8; i++) {
            due("limit " + i, x.fact(56 + i, 1), limits[i]);
        }
        due("the tape is empty", x.count(5), 0);
        due("y 8", row(x, 8, 1, 2), -6);
        due("the tape is empty then, too", x.count(5), 0);
        due("y 255", row(x, 255), -6);
        due("y alone", row(x, 3), 0);
        due("beyond x 7", row(x, 0, 1, 1, 1, 1, 1, 1, 1, 1, 9, 9), 8);
        due("the next row is left", x.fact(8, 1), 100);
        due("refused", x.count(10), 3);
        due("heat is left", x.fact(0, 0), 0);
    }

    private static void haze() {
        ShadowHerds x = new ShadowHerds();
        row(x, 9, 1);
        due("refused: ahead of any", x.haze(), 0);
        row(x, 0, 0, 1, 0, 1);
        due("two", x.haze(), 2);
        row(x, 0, 1, 1, 1, 1, 1, 1, 1, 1, 9, 0, 9);
        due("beyond x 7", x.haze(), 3);
        row(x, 8);
        due("refused ones do not count", x.haze(), 3);
        row(x, 1);
        due("y alone", x.haze(), 0);
    }

    private static void law() {
        ShadowHerds x = new ShadowHerds();
        due("empty", law(x, ""), -6);
        due("its fault", x.fault(), 0);
        due("blanks", law(x, "   "), -6);
        due("its fault", x.fault(), 3);
        for (int i = 0; i < 6; i++) {
            due("law " + i, law(x, "worth 10 + " + i), i);
        }
        due("status", x.status(), 0);
        law(x, "heats");
        due("no room, ahead of reading", x.status(), -5);
        due("fault is left", x.fault(), NONE);
        due("the tape is empty", x.count(5), 0);
        due("laws", x.count(4), 6);
        due("refused by -5", x.count(9), 1);
        due("refused by -6", x.count(10), 2);
        x.force(4);
        due("each has its own", x.asks(0, 0, 3), 14);
        lawSums();
        lawTests();
        lawClauses();
        lawTexts();
    }

    private static void lawSums() {
        worth("2 + 3 * 4", 14);
        worth("[2 + 3] * 4", 20);
        worth("20 - 5 - 3", 12);
        worth("60 / 5 / 3", 4);
        worth("7 - 2 * 3 + 1", 2);
        worth("17 % 5 * 4", 8);
        worth("2 * 17 % 5", 4);
        worth("[0 - 7] / 2 + 10", 7);
        worth("[0 - 7] % 4 + 10", 7);
        worth("7 % [0 - 4]", 3);
        worth("0 - 5", 0);
        worth("98 + 1", 99);
        worth("98 + 2", 99);
        worth("1000", 99);
        worth("007", 7);
        worth("x * 10 + y", 31);
        worth("hour", 5);
        worth("cloud + 2", 1);
        worth("layer + 3", 2);
        worth("shade + 4", 3);
        worth("5 / 0", 1);
        worth("5 % [x - 3]", 1);
        worth("1000 * 1000 * 1000 / 1000 / 1000 / 1000 + 4", 5);
        worth("[1000 * 1000 * 1000 + 1] * 0 + 4", 1);
        worth("[0 - 1000 * 1000 * 1000] * 0 + 4", 4);
        worth("[0 - 1000 * 1000 * 1000 - 1] * 0 + 4", 1);
        worth("[1000 * 1000 * 1000 * 1000 * 1000 * 1000 * 1000] * 0 + 4", 1);
        worth("[[[[[[[[9]]]]]]]]", 9);
    }

    private static void lawTests() {
        so("x = 3", true);
        so("x = 4", false);
        so("x < 3", false);
        so("x < 4", true);
        so("x > 3", false);
        so("x > 2", true);
        so("not x = 3", false);
        so("not not x = 3", true);
        so("not not not x = 4", true);
        so("x = 3 and y = 1", true);
        so("x = 3 and y = 2", false);
        so("x = 4 and y = 1", false);
        so("x = 4 or y = 1", true);
        so("x = 4 or y = 2", false);
        so("x = 3 or y = 1 and hour = 0", true);
        so("(x = 3 or y = 1) and hour = 0", false);
        so("hour = 0 and x = 3 or y = 1", true);
        so("hour = 0 and (x = 3 or y = 1)", false);
        so("not x = 4 and y = 1", true);
        so("not (x = 4 and y = 1)", true);
        so("not (x = 3 or y = 9)", false);
        so("x = 4 or y = 4 or hour = 5", true);
        so("x = 3 and y = 1 and hour = 5", true);
        so("x = 3 and y = 1 and hour = 6", false);
        so("1 / 0 = 1", false);
        so("not 1 / 0 = 1", false);
        so("x = 3 or 1 / 0 = 1", true);
        so("1 / 0 = 1 or x = 3", false);
        so("x = 4 or 1 / 0 = 1 or x = 3", false);
        so("x = 4 and 1 / 0 = 1", false);
        so("not (x = 4 and 1 / 0 = 1)", true);
        so("not (x = 3 and 1 / 0 = 1)", false);
        so("not (1 / 0 = 1 and x = 4)", false);
        so("x = 4 and 1 / 0 = 1 or x = 3", true);
        so("x = 3 or x = 3 and 1 / 0 = 1", true);
        so("((((((((x = 3))))))))", true);
        so("(((([[[[x]]]] = 3))))", true);
    }

    private static void lawClauses() {
        due("the last that holds", under("worth 2; worth 3; worth 4 if x = 9; worth 5 / 0").asks(0, 0, 3), 3);
        due("none that holds", under("worth 2 if x = 9").asks(0, 0, 3), 1);
        due("another kind", under("heats 2; cools 4").asks(0, 0, 3), 1);
        ShadowHerds x = under("heats 7 + shade; cools 20 - shade; heats 0 - 1 if x = 1; cools 200 if x = 1; worth cloud + layer + shade + 9");
        x.cloud(2, 2, 0, 3, 3);
        x.cloud(1, 1, 1, 3, 3);
        due("heats in the sun", x.asks(0, 0, 1), 7);
        due("cools in the sun", x.asks(0, 0, 2), 20);
        due("heats by two shades", x.asks(27, 0, 1), 9);
        due("cools by one shade", x.asks(28, 0, 2), 19);
        due("the nearest below", x.asks(1, 0, 1), 0);
        due("the nearest above", x.asks(1, 0, 2), 99);
        due("worth is asked of no cloud", x.asks(27, 0, 3), 6);
        ShadowHerds y = under("bars if cloud = 1 and layer = 2 and x = 0 - 3 and y = 9 and shade = 0 - 1 and hour = 4");
        y.cloud(1, 1, 2, -3, 9);
        y.cloud(1, 1, 2, -3, 9);
        due("the cloud that is barred", y.at(1, 4, 2), 1);
        due("another hour", y.at(1, 5, 2), 0);
        due("another cloud", y.at(0, 4, 2), 0);
        due("bars of all", under("bars").count(4), 1);
    }

    private static void lawTexts() {
        read("worth 1;worth 1;worth 1;worth 1;worth 1;worth 1;worth 1;worth 1;worth 1;worth 1;worth 1;worth 1", NONE);
        read("worth 1;worth 1;worth 1;worth 1;worth 1;worth 1;worth 1;worth 1;worth 1;worth 1;worth 1;worth 1; worth 1", 97);
        read("worth 1;worth 1;worth 1;worth 1;worth 1;worth 1;worth 1;worth 1;worth 1;worth 1;worth 1;worth 1;", 96);
        StringBuilder fifty = new StringBuilder("worth 1");
        for (int i = 1; i < 50; i++) {
            fifty.append("+x");
        }
        read(fifty.toString(), NONE);
        read(fifty + "+ 1", 107);
        read(fifty + "+x if x = 1", 106);
        read(fifty + ";bars", NONE);
        read(fifty + ";worth 2", 112);
        read(fifty + "+", 106);
        read("worth [[[[[[[[1]]]]]]]]", NONE);
        read("worth [[[[[[[[[1]]]]]]]]]", 14);
        read("bars if ((((((((1=1))))))))", NONE);
        read("bars if (((((((((1=1)))))))))", 16);
        read("bars if ((((([[[1]]]=1)))))", NONE);
        read("bars if ((((([[[[1]]]]=1)))))", 16);
        read("bars if ((((((((1=1)))))))) and [1]=1", NONE);
        read("worth 1000", NONE);
        read("worth 1001", 6);
        read("worth 99999999999999999999", 6);
        read("worth 00000000000000000001000", NONE);
        read("worth day*mood", NONE);
        read("worth clouds", 6);
        read("worth left 0 0", 6);
        read("worth 1 if", 10);
        read("worth 1 if  ", 12);
        read("worth 1 x", 8);
        read("worth 1 < 2", 8);
        read("worth (1)", 6);
        read("worth -1", 6);
        read("worth 1if x=1", NONE);
        read("worth 1 if x", 12);
        read("worth 1 if [x = 1]", 14);
        read("worth 1 if (x) = 1", 13);
        read("worth 1 if x = 1 = 1", 17);
        read("worth 1 if x = 1)", 16);
        read("worth 1]", 7);
        read("worth [1", 8);
        read("worth 1 if not", 14);
        read("worth 1 if x = 1 and", 20);
        read("worth 1 if x = 1 or or", 20);
        read("Worth 1", 0);
        read("worths 1", 0);
        read("worth1", NONE);
        read("bars 1", 5);
        read("bars", NONE);
        read("bars;", 5);
        read(";bars", 0);
        read("bars;;bars", 5);
        read("bars\tif 1=1", 4);
        read("bars if 1=1\0", 11);
        read("bars \u00e9", 5);
        read("flag 0 to 0 at 0", 0);
        read("x", 0);
        read("7", 0);
    }

    private static void drives() {
        run("flag 0 to 1 at 3", 1, NONE, NONE);
        run("flag 0 to 1 at 3 times 1; flag 0 to 2 at 4", 2, NONE, NONE);
        run("flag 0 to 1 at 0 each 1 times 11", 11, NONE, NONE);
        run("flag 0 to 1 at 0 each 1 times 12", -3, NONE, 0);
        run("flag 0 to 1 at 10 each 0 - 2 times 6", 6, NONE, NONE);
        run("flag 0 to 1 at 3 times 2", -3, NONE, 0);
        run("flag 0 to 1 at 3; flag 0 to 1 at 3", -3, NONE, 1);
        run("flag 0 to 1 at 3; flag 1 to 1 at 4", -3, NONE, 1);
        run("flag 0 to 4 at 3", -3, NONE, 0);
        run("flag 0 to 0 - 1 at 3", -3, NONE, 0);
        run("flag 0 - 1 to 0 at 3", -3, NONE, 0);
        run("flag 0 to 1 at 11", -3, NONE, 0);
        run("flag 0 to 1 at 0 - 1", -3, NONE, 0);
        run("flag 0 to 1 at 1 / 0", -3, NONE, 0);
        run("flag 1 / 0 to 1 at 1", -3, NONE, 0);
        run("flag 0 to 1 / 0 at 1", -3, NONE, 0);
        run("flag 0 to 1 at 1 each 1 / 0", -3, NONE, 0);
        run("flag 0 to 1 at 1 each 1000 * 1000 * 1000", 1, NONE, NONE);
        run("flag 0 to 1 at 1 each 1000 * 1000 * 1000 times 20", -3, NONE, 0);
        run("flag 1 / 0 to 1 at 1 if 1 = 2", 0, NONE, NONE);
        run("flag 0 to 1 at 1 if 1 / 0 = 2", 0, NONE, NONE);
        run("flag 0 to 1 at 1 if not 1 / 0 = 2", 0, NONE, NONE);
        run("flag 0 to 1 at 1 if 2 = 2 or 1 / 0 = 2", 1, NONE, NONE);
        run("flag clouds - 1 to done at flags + 5; flag 0 to done at last + 1; flag 0 to done at last + 2", 3, NONE, NONE);
        run("flag 0 to 1 at 3 + last", 1, NONE, NONE);
        run("flag 0 to 1 at 3 times 20 if done = 0", 1, NONE, NONE);
        run("flag 0 to run at 3 + run times 4", 4, NONE, NONE);
        run("flag 0 to 1 at run times 20 if run < 5", 5, NONE, NONE);
        run("flag 0 to 1 at 0; flag 0 to run at 3", 2, NONE, NONE);
        run("", -6, 0, NONE);
        run("  ", -6, 2, NONE);
        run("flag", -6, 4, NONE);
        run("heats 5", -6, 0, NONE);
        run("flag 0 to 0 at 0 times 20", -3, NONE, 0);
        run("flag 0 to 0 at 0 times 21", -6, 23, NONE);
        run("flag 0 to 0 at 0 times 0", -6, 23, NONE);
        run("flag 0 to 0 at 0 times [1]", -6, 23, NONE);
        run("flag 0 to 0 at 0 times 1 each 1", -6, 25, NONE);
        run("flag 0 to 0 at 0 if 1 = 1 times 1", -6, 26, NONE);
        run("flag 0 to 0 at left 4 11", -3, NONE, 0);
        run("flag 0 to 0 at left 5 0", -6, 20, NONE);
        run("flag 0 to 0 at left 0 12", -6, 22, NONE);
        run("flag 0 to 0 at top 0", -6, 20, NONE);
        run("flag 0 to 0 at top x 0", -6, 19, NONE);
        run("flag 0 to 0 at hour", -6, 15, NONE);
        run("flag 0 to 0 at left 0 + 1", -6, 22, NONE);
        run("flag 0 to 0 at left + 1", -6, 20, NONE);
        run("flag 0 to 0 at 0 each", -6, 21, NONE);
        run("flag 0 to 0 at 0 each;", -6, 21, NONE);
        run("flag 0 to 0 at 0 each if 1 = 1", -6, 22, NONE);
        run("flag 0 to 0 at 0 times", -6, 22, NONE);
        run("flag 0 to 0 at 0 times if 1 = 1", -6, 23, NONE);
        run("flag 0 to 0 at", -6, 14, NONE);
        run("flag 0 to 0 at; flag", -6, 14, NONE);
        run("flag 0 to 0", -6, 11, NONE);
        run("flag 0 to 0;", -6, 11, NONE);
        run("flag 0 to", -6, 9, NONE);
        run("flag 0 to;", -6, 9, NONE);
        run("flag 0", -6, 6, NONE);
        run("flag 0;", -6, 6, NONE);
        run("flag;", -6, 4, NONE);
        run("flag 0 to 0 at 0 if", -6, 19, NONE);
        run("flag 0 to 0 at 0 if;", -6, 19, NONE);
        run("flag 0 to 0 at 0 if 1 = 1 and", -6, 29, NONE);
        run("flag 0 to 0 at 0 if 1 = 1 or;", -6, 28, NONE);
        run("flag 0 to 0 at [0 if 1 = 1]", -6, 18, NONE);
        run("flag [0 to 0 at 0]", -6, 8, NONE);
        run("flag 0 flag 0 to 0 at 0", -6, 7, NONE);
        run("flag 0 to 0 at 0 1", -6, 17, NONE);
        run("flag 0 to 0 at 0 each 1 each 1", -6, 24, NONE);
        run("flag 0 to 0 at 0 if 1 = 1 if 1 = 1", -6, 26, NONE);
        run("flag 0 at 0 to 0", -6, 7, NONE);
        drivesWords();
        drivesRoom();
    }

    private static void drivesWords() {
        ShadowHerds x = new ShadowHerds();
        x.cloud(1, 1, 0, 2, 1);
        x.cloud(1, 1, 1, 14, 0);
        x.wind(1, 1, 0);
        x.terms(0, 7);
        x.flag(0, 0, 1);
        due("left and top as told", drives(x, "flag 0 to top 0 5 at left 0 5"), 1);
        due("its hour", x.undo(), 3);
        due("its direction and hour by flags told in the same text",
            drives(x, "flag 0 to 2 at 1; flag 0 to 3 at 2; flag 0 to top 0 11 at left 0 3 + 5"), 3);
        due("its hour", x.undo(), 7);
        due("y of the corner", x.at(0, 11, 1), 2);
        due("day", drives(x, "flag 1 to 0 at day"), 1);
        due("its hour", x.undo(), 7);
        due("gone is 100", drives(x, "flag 1 to 1 at left 1 2 - 91 if left 1 1 = 15 and top 1 2 = 100"), 1);
        due("its hour", x.undo(), 9);
        due("no such cloud is 100", drives(x, "flag 0 to 1 at left 4 0 - 96 if top 3 11 = 100"), 1);
        due("its hour", x.undo(), 4);
        due("flags are all, done are of the text", drives(x, "flag 1 to 0 at 4 if flags = 3 and done = 0; flag 1 to 0 at 5 if flags = 4 and done = 1"), 2);
        due("last is of the text", drives(x, "flag 1 to 0 at 9 if last = 0 - 1; flag 1 to 0 at 10 if last = 9"), 2);
        due("run begins anew", drives(x, "flag 0 to 0 at 4 + run times 2; flag 0 to 0 at 8 + run times 2 if run < 2"), 4);
        due("flags", x.count(1), 11);
    }

    private static void drivesRoom() {
        ShadowHerds x = new ShadowHerds();
        x.cloud(1, 1, 0, 0, 0);
        x.cloud(1, 1, 0, 0, 0);
        x.cloud(1, 1, 0, 0, 0);
        due("22", drives(x, "flag 0 to 1 at run times 11; flag 1 to 1 at run times 11"), 22);
        due("one too many", drives(x, "flag 2 to 1 at 0; flag 2 to 1 at 1 + run times 2"), -5);
        due("stopped", x.stopped(), 1);
        due("all is as ahead", x.count(1), 22);
        due("the tape is empty", x.count(5), 0);
        due("a told one ahead of no room", drives(x, "flag 2 to 1 at 0 + run times 2; flag 2 to 1 at 0"), -3);
        due("two", drives(x, "flag 2 to 1 at run times 2"), 2);
        due("none", drives(x, "flag 2 to 1 at 9 if 1 = 2"), 0);
        due("refused by -3", x.count(8), 1);
        due("refused by -5", x.count(9), 1);
        due("status", x.status(), 0);
    }

    private static void fault() {
        ShadowHerds x = still();
        due("ahead of any", x.fault(), NONE);
        law(x, "worth 1 +");
        due("of law", x.fault(), 9);
        law(x, "worth 1");
        due("none after one that was read", x.fault(), NONE);
        drives(x, "flag 0 to 1 by 3");
        due("of drives", x.fault(), 12);
        drives(x, "flag 0 to 9 at 3");
        due("none after one that can't be run", x.fault(), NONE);
        law(x, "worth ?");
        for (int i = 0; i < 5; i++) {
            x.image(0);
        }
        x.back(0);
        due("an image does not keep it", x.fault(), 6);
        row(x, 9);
        due("row does not count", x.fault(), 6);
        for (int i = 1; i < 6; i++) {
            law(x, "bars");
        }
        law(x, "worth #");
        due("law without room does not read", x.fault(), NONE);
    }

    private static void stopped() {
        ShadowHerds x = still();
        due("ahead of any", x.stopped(), NONE);
        drives(x, "flag 0 to 0 at 0; flag 0 to 0 at 1; flag 0 to 0 at 1; flag 9 to 0 at 0");
        due("the third", x.stopped(), 2);
        law(x, "bars");
        due("law does not count", x.stopped(), 2);
        x.image(0);
        drives(x, "flag 0 to 0 at 0");
        due("none", x.stopped(), NONE);
        x.back(0);
        due("an image does not keep it", x.stopped(), NONE);
        drives(x, "flag 0 to 7 at 0");
        due("the first", x.stopped(), 0);
        drives(x, "flag 0");
        due("none of a text that can't be read", x.stopped(), NONE);
    }

    private static void force() {
        ShadowHerds x = new ShadowHerds();
        due("no law", x.force(0), -2);
        due("status", x.status(), -2);
        due("none", x.force(NONE), NONE);
        law(x, "worth 4");
        law(x, "worth 5");
        due("a law is not in force at once", x.asks(0, 0, 3), 1);
        due("force(1)", x.force(1), NONE);
        due("count(11)", x.count(11), 1);
        due("worth", x.asks(0, 0, 3), 5);
        due("force(0)", x.force(0), 1);
        due("worth", x.asks(0, 0, 3), 4);
        due("force(2)", x.force(2), -2);
        due("force(-2)", x.force(-2), -2);
        due("force(MOST)", x.force(MOST), -2);
        due("still", x.asks(0, 0, 3), 4);
        due("none again", x.force(NONE), 0);
        due("worth", x.asks(0, 0, 3), 1);
        due("refused", x.count(7), 4);
        due("status", x.status(), 0);
    }

    private static void asks() {
        ShadowHerds x = under("heats hour + shade; cools 10 + shade; worth x + y");
        x.cloud(2, 2, 0, 6, 6);
        x.cloud(3, 3, 1, 7, 7);
        x.wind(1, -1, 0);
        due("two", x.asks(63, 0, 0), 2);
        due("one", x.asks(54, 0, 0), 1);
        due("none", x.asks(53, 0, 0), 0);
        due("by the wind", x.asks(61, 2, 0), 1);
        due("heats", x.asks(63, 0, 1), 2);
        due("heats in hour 11", x.asks(0, 11, 1), 11);
        due("cools", x.asks(63, 1, 2), 12);
        due("worth", x.asks(63, 1, 3), 14);
        int[][] bad = {{-1, 0, 0}, {64, 0, 0}, {0, -1, 0}, {0, 12, 0}, {0, 0, -1}, {0, 0, 4}, {LEAST, MOST, MOST}};
        for (int[] b : bad) {
            due("asks(" + b[0] + ", " + b[1] + ", " + b[2] + ")", x.asks(b[0], b[1], b[2]), NONE);
        }
    }

    private static void at() {
        ShadowHerds x = under("bars if hour = 3; bars if x = 7");
        x.cloud(1, 1, 0, 0, 2);
        x.wind(0, 1, 0);
        x.put(18, 2, 1);
        x.flag(1, 0, 2);
        x.flag(2, 0, 2);
        x.flag(3, 0, 2);
        due("x in hour 2", x.at(0, 2, 0), 2);
        due("y in hour 2 by a flag", x.at(0, 2, 1), 3);
        due("y in hour 3 by another one", x.at(0, 3, 1), 4);
        due("barred: no help", x.at(0, 4, 1), 4);
        due("what 2: barred", x.at(0, 3, 2), 1);
        due("what 2: free", x.at(0, 2, 2), 0);
        x.undo();
        x.undo();
        x.undo();
        due("what 2: over water", x.at(0, 2, 2), 2);
        x.flag(2, 0, 2);
        due("over water: no help, but the wind goes on", x.at(0, 3, 0) * 100 + x.at(0, 3, 1), 302);
        x.put(19, 2, 1);
        due("barred ahead of water", x.at(0, 3, 2), 1);
        ShadowHerds w = new ShadowHerds();
        int[][] corners = {{0, 0}, {7, 0}, {0, 7}, {7, 7}, {-1, 0}, {0, -1}, {8, 0}, {0, 8}, {8, 8}};
        for (int f = 0; f < 64; f++) {
            w.put(f, 2, 1);
        }
        w.image(0);
        for (int i = 0; i < corners.length; i++) {
            w.cloud(3, 3, 0, corners[i][0], corners[i][1]);
            due("water under the corner alone", w.at(0, 0, 2), i < 4 ? 2 : 0);
            w.back(0);
        }
        due("hour 7", x.at(0, 7, 2), 1);
        due("hour 11 off the plain", x.at(0, 11, 0) * 10 + x.at(0, 11, 2), 110);
        ShadowHerds y = new ShadowHerds();
        y.cloud(1, 1, 0, 10, -8);
        y.wind(0, 1, 0);
        due("the edge", y.at(0, 5, 0), 15);
        due("gone", y.at(0, 6, 0), NOTHING);
        due("gone", y.at(0, 6, 1), NOTHING);
        due("gone", y.at(0, 6, 2), NOTHING);
        due("for good", y.at(0, 11, 0), NOTHING);
        y.flag(5, 0, 3);
        due("wind and flag are one way", y.at(0, 6, 0), 15);
        y.flag(0, 0, 0);
        due("gone by a flag", y.at(0, 1, 1), NOTHING);
        int[][] edges = {{-8, 3, -1, 0}, {15, 3, 1, 0}, {3, -8, 0, -1}, {3, 15, 0, 1}};
        for (int[] e : edges) {
            ShadowHerds z = new ShadowHerds();
            z.cloud(1, 1, 0, e[0], e[1]);
            due("x at the edge", z.at(0, 11, 0), e[0]);
            due("y at the edge", z.at(0, 11, 1), e[1]);
            z.wind(0, e[2], e[3]);
            due("beyond the edge", z.at(0, 1, 0), NOTHING);
        }
        int[][] bad = {{1, 0, 0}, {-1, 0, 0}, {0, -1, 0}, {0, 12, 0}, {0, 0, -1}, {0, 0, 3}, {MOST, 0, 0}, {0, LEAST, 0}};
        for (int[] b : bad) {
            due("at(" + b[0] + ", " + b[1] + ", " + b[2] + ")", x.at(b[0], b[1], b[2]), NOTHING);
        }
    }

    private static void dark() {
        ShadowHerds x = new ShadowHerds();
        due("no cloud", x.dark(0), 0);
        x.cloud(3, 3, 0, 6, 6);
        due("four of nine", x.dark(0), 4);
        x.cloud(3, 2, 1, -1, -1);
        due("two more", x.dark(11), 6);
        x.cloud(1, 1, 1, 7, 7);
        due("one over another one", x.dark(5), 6);
        x.wind(1, 1, 1);
        due("by the wind", x.dark(2), 4 + 6);
        x.cloud(1, 1, 2, -8, 15);
        due("off the plain", x.dark(0), 6);
        due("hour 12", x.dark(12), NONE);
        due("hour -1", x.dark(-1), NONE);
        due("far off", x.dark(LEAST), NONE);
    }

    private static void heat() {
        ShadowHerds x = new ShadowHerds();
        x.put(0, 0, 10);
        x.cloud(1, 1, 0, 0, 0);
        due("at first", x.heat(0, 0), 10);
        due("cooled", x.heat(0, 3), 1);
        due("0 at least", x.heat(0, 4), 0);
        due("0 still", x.heat(0, 12), 0);
        due("in the sun", x.heat(63, 12), 60);
        x.flag(5, 0, 1);
        due("shade gone on", x.heat(0, 12), 30);
        due("the last hour counts", x.heat(0, 11), 25);
        ShadowHerds y = under("heats 2 * hour; cools 1 if shade = 1; cools 5 if shade = 2");
        due("by the hour", y.heat(9, 12), 132);
        y.put(9, 0, 50);
        y.cloud(1, 1, 0, 1, 1);
        due("by one cloud", y.heat(9, 2), 48);
        y.cloud(1, 1, 0, 1, 1);
        due("by two clouds", y.heat(9, 2), 40);
        due("no upper end", under("heats 99").heat(0, 12), 1188);
        int[][] bad = {{-1, 0}, {64, 0}, {0, -1}, {0, 13}, {LEAST, MOST}};
        for (int[] b : bad) {
            due("heat(" + b[0] + ", " + b[1] + ")", x.heat(b[0], b[1]), NONE);
        }
    }

    private static void scorched() {
        ShadowHerds x = new ShadowHerds();
        due("none", x.scorched(NONE), 0);
        due("the first of none", x.scorched(0), NONE);
        x.put(5, 1, 59);
        x.put(6, 1, 60);
        x.put(60, 1, 1);
        due("above, not at its limit", x.scorched(NONE), 2);
        due("the first", x.scorched(0), 5);
        due("the second", x.scorched(1), 60);
        due("the third", x.scorched(2), NONE);
        due("below", x.scorched(-2), NONE);
        due("far off", x.scorched(MOST), NONE);
        due("far below", x.scorched(LEAST), NONE);
        ShadowHerds y = new ShadowHerds();
        y.put(0, 0, 50);
        y.put(0, 1, 49);
        y.cloud(1, 1, 0, 0, 0);
        due("in hour 0, cooled later", y.scorched(0), 0);
        y.put(0, 1, 50);
        due("not at its limit", y.scorched(NONE), 0);
        ShadowHerds z = under("heats 99");
        due("all", z.scorched(NONE), 64);
        due("the last", z.scorched(63), 63);
    }

    private static void broken() {
        ShadowHerds x = new ShadowHerds();
        x.cloud(1, 1, 0, 2, 0);
        x.wind(0, 1, 0);
        due("no contract", x.broken(0), NONE);
        x.contract(3, 1, 1, 1, 1);
        x.contract(3, 1, 2, 1, 1);
        x.contract(3, 0, 11, 0, 1);
        x.contract(9, 4, 11, 0, 1);
        x.contract(7, 5, 11, 1, 1);
        due("kept", x.broken(0), NONE);
        due("shade gone", x.broken(1), 2);
        due("sun gone", x.broken(2), 1);
        due("sun kept", x.broken(3), NONE);
        due("till its end", x.broken(4), 6);
        due("no such", x.broken(5), NONE);
        due("below", x.broken(-1), NONE);
        due("far off", x.broken(MOST), NONE);
        x.cloud(3, 1, 1, 2, 0);
        due("by another cloud", x.broken(1), NONE);
        due("the first hour", x.broken(2), 0);
    }

    private static void judge() {
        ShadowHerds x = still();
        due("none", x.judge(0), NONE);
        due("no fees", x.judge(1), 0);
        x.contract(27, 0, 11, 1, 99);
        x.contract(26, 0, 11, 0, 98);
        due("all kept", x.judge(0), NONE);
        due("fees of all", x.judge(1), 197);
        x.contract(0, 7, 8, 1, 5);
        x.contract(1, 3, 8, 1, 6);
        x.contract(2, 3, 8, 1, 7);
        due("by hours, then numbers", x.judge(0), 3);
        due("fees of those that are kept", x.judge(1), 197);
        due("what 2", x.judge(2), NONE);
        due("what -1", x.judge(-1), NONE);
        x.flag(1, 0, 3);
        due("an earlier one", x.judge(0), 0);
        due("fees", x.judge(1), 0);
        due("far off", x.judge(MOST), NONE);
    }

    private static void drive() {
        ShadowHerds x = still();
        due("there already", x.drive(0, 27, 0, 11, NONE), 0);
        due("no flag", x.drive(0, 27, 0, 11, 0), 4);
        due("no flag in the last one", x.drive(0, 27, 0, 11, 10), 4);
        due("beyond its row", x.drive(0, 27, 0, 11, 11), NONE);
        due("an hour 0 has no row", x.drive(0, 27, 0, 0, 0), NONE);
        due("two flags", x.drive(0, 36, 4, 4, NONE), 2);
        int[] first = {1, 2, 4, 4};
        for (int i = 0; i < 4; i++) {
            due("the first row", x.drive(0, 36, 4, 4, i), first[i]);
        }
        due("till is not in its row", x.drive(0, 36, 4, 4, 4), NONE);
        due("just in time", x.drive(0, 36, 2, 2, NONE), 2);
        due("too far", x.drive(0, 36, 1, 1, NONE), NONE);
        due("too far", x.drive(0, 36, 1, 1, 0), NONE);
        due("both hours", x.drive(0, 35, 1, 9, NONE), 1);
        x.flag(0, 0, 0);
        due("flags as told do not count", x.drive(0, 35, 1, 1, NONE), 1);
        x.wind(0, 1, 0);
        due("against the wind", x.drive(0, 27, 0, 2, NONE), 2);
        due("against the wind", x.drive(0, 27, 0, 2, 1), 3);
        x.put(27, 2, 1);
        due("over water", x.drive(0, 27, 0, 1, NONE), NONE);
        due("behind water", x.drive(0, 30, 4, 4, NONE), 1);
        due("only behind water, up or down is of no use", x.drive(0, 30, 4, 4, 0), 4);
        due("so later", x.drive(0, 30, 4, 4, 1), 3);
        int[][] bad = {{1, 0, 0, 0, -1}, {-1, 0, 0, 0, -1}, {0, 64, 0, 0, -1}, {0, -1, 0, 0, -1}, {0, 27, -1, 0, -1},
            {0, 27, 2, 1, -1}, {0, 27, 0, 12, -1}, {0, 27, 12, 12, -1}, {0, 27, 0, 0, -2}, {0, 27, 0, 0, LEAST}, {0, 27, 0, 0, MOST}};
        for (int[] b : bad) {
            due("drive of " + java.util.Arrays.toString(b), x.drive(b[0], b[1], b[2], b[3], b[4]), NONE);
        }
        ShadowHerds y = under("bars if hour < 3");
        y.cloud(1, 1, 0, 3, 3);
        due("barred", y.drive(0, 28, 3, 3, NONE), NONE);
        due("not barred any more", y.drive(0, 28, 4, 4, 3), 1);
    }

    private static void pasture() {
        ShadowHerds x = under("worth 9 if x = 4 and y = 3 and hour > 4; worth 2 if hour = 0");
        x.cloud(1, 1, 0, 3, 3);
        due("without flags", x.pasture(0, 0, NONE), 13);
        due("no direction", x.pasture(0, 0, 10), 4);
        due("one flag", x.pasture(0, 1, NONE), 2 + 4 + 7 * 9);
        due("in the first hour", x.pasture(0, 1, 0), 1);
        due("none then", x.pasture(0, 1, 1), 4);
        due("more flags are of no more use", x.pasture(0, 11, NONE), 69);
        due("the first as a row", x.pasture(0, 11, 0), 0);
        due("hour 11 has none", x.pasture(0, 1, 11), NONE);
        x.flag(0, 0, 3);
        due("flags as told do not count", x.pasture(0, 0, NONE), 13);
        x.cloud(3, 3, 0, 3, 3);
        due("other clouds do not count", x.pasture(0, 0, NONE), 13);
        due("all fields", x.pasture(1, 0, NONE), 18 + 4 * 9 + 7 * 17);
        int[][] bad = {{2, 0, -1}, {-1, 0, -1}, {0, -1, -1}, {0, 12, -1}, {0, 0, -2}, {0, 0, 11}, {0, LEAST, -1}, {0, MOST, MOST}};
        for (int[] b : bad) {
            due("pasture(" + b[0] + ", " + b[1] + ", " + b[2] + ")", x.pasture(b[0], b[1], b[2]), NONE);
        }
        ShadowHerds y = new ShadowHerds();
        y.cloud(2, 2, 0, 7, 7);
        due("only fields that there are", y.pasture(0, 0, NONE), 12);
        due("two flags", y.pasture(0, 2, NONE), 1 + 2 + 40);
        y.wind(0, 1, 0);
        due("gone on", y.pasture(0, 0, NONE), 1);
        y.wind(0, 0, 0);
        y.put(63, 2, 1);
        due("over water", y.pasture(0, 11, NONE), 12);
        due("flags of no use are the first", y.pasture(0, 2, 1), 0);
        due("flags of no use, but no more than n", y.pasture(0, 2, 2), 4);
    }

    private static void serve() {
        ShadowHerds x = still();
        due("no contract", x.serve(0, 0), 0);
        due("no bits", x.serve(0, 1), 0);
        x.contract(27, 0, 1, 1, 10);
        x.contract(28, 2, 3, 1, 10);
        x.contract(26, 2, 3, 1, 10);
        x.contract(0, 0, 0, 0, 99);
        due("two of them", x.serve(0, 0), 20);
        due("the lowest bits", x.serve(0, 1), 3);
        x.contract(25, 3, 3, 1, 11);
        due("the other way", x.serve(0, 0), 21);
        due("its bits", x.serve(0, 1), 17);
        x.contract(63, 0, 11, 1, 99);
        due("one that can't be", x.serve(0, 0), 21);
        x.contract(35, 11, 11, 1, 50);
        due("one more", x.serve(0, 1), 64 + 17);
        x.flag(0, 0, 0);
        due("flags as told do not count", x.serve(0, 0), 71);
        x.cloud(3, 3, 0, 5, 5);
        due("another cloud", x.serve(1, 0), 99);
        due("its bits", x.serve(1, 1), 32);
        due("what 2", x.serve(0, 2), NONE);
        due("what -1", x.serve(0, -1), NONE);
        due("no such cloud", x.serve(2, 0), NONE);
        due("below", x.serve(-1, 1), NONE);
        x.put(27, 2, 1);
        due("from water none", x.serve(0, 1), 1);
        ShadowHerds y = new ShadowHerds();
        y.cloud(1, 1, 0, 3, 3);
        y.wind(0, 1, 0);
        y.contract(27, 0, 0, 1, 5);
        y.contract(31, 4, 11, 1, 6);
        due("till it is gone", y.serve(0, 0), 11);
        y.put(31, 2, 1);
        due("from water it goes", y.serve(0, 0), 5);
    }

    private static void cross() {
        ShadowHerds x = new ShadowHerds();
        x.cloud(2, 2, 0, 0, 0);
        x.cloud(3, 1, 1, 4, 1);
        due("never", x.cross(0, 1, 0), NONE);
        due("never", x.cross(0, 1, 1), NONE);
        x.wind(0, 1, 0);
        due("the first hour", x.cross(0, 1, 0), 3);
        due("how many", x.cross(0, 1, 1), 1);
        due("the other way", x.cross(1, 0, 0), 3);
        x.cloud(3, 3, 2, -8, 0);
        x.cloud(3, 3, 2, -8, 0);
        due("off the plain no fields", x.cross(2, 3, 0), NONE);
        x.wind(2, 1, 0);
        due("on the plain", x.cross(2, 3, 0), 6);
        due("only fields that there are", x.cross(2, 3, 1), 3);
        due("the same one", x.cross(0, 0, 0), NONE);
        due("what 2", x.cross(0, 1, 2), NONE);
        due("what -1", x.cross(0, 1, -1), NONE);
        due("no such", x.cross(0, 4, 0), NONE);
        due("no such", x.cross(-1, 0, 0), NONE);
        due("no such", x.cross(MOST, LEAST, 0), NONE);
        x.flag(1, 0, 0);
        due("flags as told", x.cross(0, 1, 0), NONE);
        ShadowHerds y = new ShadowHerds();
        y.cloud(3, 3, 0, 2, 2);
        y.cloud(2, 3, 0, 3, 1);
        due("at once", y.cross(0, 1, 0), 0);
        due("four", y.cross(0, 1, 1), 4);
    }

    private static void part() {
        ShadowHerds x = new ShadowHerds();
        x.cloud(1, 1, 0, 1, 3);
        x.cloud(1, 1, 1, 4, 3);
        due("apart already", x.part(0, 1), 0);
        x.wind(0, 1, 0);
        due("one flag", x.part(0, 1), 1);
        due("of the other one", x.part(1, 0), 1);
        x.flag(2, 1, 0);
        due("the other one as told", x.part(0, 1), 0);
        x.flag(0, 0, 0);
        due("its own do not count", x.part(1, 0), 0);
        x.undo();
        x.undo();
        x.flag(0, 0, 0);
        due("its own do not count", x.part(0, 1), 1);
        due("the same one", x.part(0, 0), NONE);
        due("no such", x.part(0, 2), NONE);
        due("no such", x.part(-1, 0), NONE);
        due("no such", x.part(LEAST, MOST), NONE);
        x.cloud(1, 1, 0, 1, 3);
        x.undo();
        due("over one another at once", x.part(0, 2), NONE);
        ShadowHerds y = new ShadowHerds();
        y.cloud(3, 3, 0, 0, 3);
        y.cloud(3, 3, 1, 4, 3);
        y.wind(0, 1, 0);
        due("wide ones", y.part(0, 1), 10);
        for (int f = 0; f < 64; f++) {
            y.put(f, 2, 1);
        }
        due("over water", y.part(0, 1), NONE);
        ShadowHerds z = new ShadowHerds();
        z.cloud(3, 3, 0, -8, 0);
        z.cloud(3, 3, 0, -8, 0);
        due("off the plain", z.part(0, 1), 0);
    }

    private static void likely() {
        ShadowHerds x = new ShadowHerds();
        x.cloud(1, 1, 0, 3, 3);
        x.wind(0, 1, 0);
        due("at once", x.likely(0, 27, 0), ALL);
        due("not at once", x.likely(0, 28, 0), 0);
        due("as told", x.likely(0, 28, 1), ALL / 10 * 8);
        due("turned: x becomes less y, y becomes x", x.likely(0, 35, 1), ALL / 10 * 2);
        due("one of two turned", x.likely(0, 36, 2), ALL / 100 * 32);
        due("both turned", x.likely(0, 43, 2), ALL / 100 * 4);
        x.wind(0, 0, 1);
        due("down becomes left", x.likely(0, 26, 1), ALL / 10 * 2);
        x.wind(0, -1, -1);
        due("left and up becomes right and up", x.likely(0, 20, 1), ALL / 10 * 2);
        x.wind(0, 1, 0);
        x.flag(0, 0, 2);
        due("a flag as told", x.likely(0, 36, 1), ALL / 10 * 8);
        x.flag(1, 0, 2);
        x.put(36, 2, 1);
        due("over water by where it is", x.likely(0, 37, 2), ALL / 100 * 64);
        due("not over water", x.likely(0, 52, 2), ALL / 100 * 16);
        due("over water and turned", x.likely(0, 44, 2), ALL / 100 * 16);
        x.terms(1, 0);
        due("never veers", x.likely(0, 36, 1), ALL);
        x.terms(1, 10);
        due("always veers", x.likely(0, 43, 1), ALL);
        ShadowHerds y = new ShadowHerds();
        y.cloud(3, 1, 0, -3, 0);
        y.wind(0, 1, 0);
        y.terms(1, 3);
        due("eleven hours", y.likely(0, 7, 10), 28247524900L);
        due("gone", y.likely(0, 63, 11), 0);
        int[][] bad = {{1, 0, 0}, {-1, 0, 0}, {0, -1, 0}, {0, 64, 0}, {0, 0, -1}, {0, 0, 12}, {MOST, LEAST, 0}};
        for (int[] b : bad) {
            due("likely(" + b[0] + ", " + b[1] + ", " + b[2] + ")", x.likely(b[0], b[1], b[2]), NONE);
        }
        ShadowHerds z = under("bars if y = 4");
        z.cloud(1, 1, 0, 3, 3);
        z.wind(0, 1, 0);
        z.flag(1, 0, 1);
        due("barred by where it is", z.likely(0, 36, 2), ALL / 100 * 16);
        due("flagged where it is not", z.likely(0, 37, 2), ALL / 100 * 16);
    }

    private static void surest() {
        ShadowHerds x = new ShadowHerds();
        x.cloud(1, 1, 0, 3, 3);
        x.wind(0, 1, 0);
        due("at once", x.surest(0, 27, 0), ALL);
        due("not at once", x.surest(0, 28, 0), 0);
        due("one hour", x.surest(0, 29, 1), ALL / 10 * 8);
        due("one hour turned", x.surest(0, 43, 1), ALL / 10 * 2);
        due("too far", x.surest(0, 31, 1), 0);
        due("both ways at once", x.surest(0, 36, 1), ALL / 10 * 8);
        due("two hours", x.surest(0, 29, 2), ALL / 100 * 80);
        x.flag(0, 0, 3);
        due("flags as told do not count", x.surest(0, 29, 1), ALL / 10 * 8);
        x.terms(1, 0);
        due("never veers", x.surest(0, 29, 1), ALL);
        x.put(27, 2, 1);
        due("over water", x.surest(0, 29, 1), 0);
        due("over water the wind", x.surest(0, 28, 1), ALL);
        int[][] bad = {{1, 0, 0}, {-1, 0, 0}, {0, -1, 0}, {0, 64, 0}, {0, 0, -1}, {0, 0, 12}, {MOST, LEAST, 0}};
        for (int[] b : bad) {
            due("surest(" + b[0] + ", " + b[1] + ", " + b[2] + ")", x.surest(b[0], b[1], b[2]), NONE);
        }
        ShadowHerds y = new ShadowHerds();
        y.cloud(1, 1, 0, 3, 3);
        due("without wind", y.surest(0, 0, 6), ALL);
        due("without wind, too far", y.surest(0, 0, 5), 0);
        ShadowHerds z = under("bars if hour < 2");
        z.cloud(1, 1, 0, 3, 3);
        due("barred", z.surest(0, 29, 3), 0);
        due("not barred any more", z.surest(0, 29, 4), ALL);
    }

    private static void steer() {
        ShadowHerds x = new ShadowHerds();
        x.cloud(1, 1, 0, 9, 9);
        x.wind(0, 1, 0);
        due("right", x.steer(0, 29, 1, 0, 3, 3), 1);
        due("none", x.steer(0, 28, 1, 0, 3, 3), 4);
        due("down", x.steer(0, 36, 1, 0, 3, 3), 2);
        due("left", x.steer(0, 27, 4, 3, 3, 3), 3);
        due("up", x.steer(0, 20, 11, 10, 3, 3), 0);
        due("the lowest of all that are as good", x.steer(0, 63, 1, 0, 0, 0), 0);
        due("from beyond the plain", x.steer(0, 0, 2, 1, -2, 0), 1);
        due("the farthest corners", x.steer(0, 0, 2, 1, -8, 15), 0);
        due("the farthest corners", x.steer(0, 0, 2, 1, 15, -8), 0);
        due("not ahead of it", x.steer(0, 29, 1, 1, 3, 3), NONE);
        due("hour 0", x.steer(0, 29, 0, 0, 3, 3), NONE);
        int[][] bad = {{1, 0, 2, 0, 0, 0}, {-1, 0, 2, 0, 0, 0}, {0, -1, 2, 0, 0, 0}, {0, 64, 2, 0, 0, 0}, {0, 0, 12, 0, 0, 0},
            {0, 0, -1, -2, 0, 0}, {0, 0, 2, -1, 0, 0}, {0, 0, 2, 3, 0, 0}, {0, 0, 2, 0, -9, 0}, {0, 0, 2, 0, 16, 0},
            {0, 0, 2, 0, 0, -9}, {0, 0, 2, 0, 0, 16}, {0, 0, 2, LEAST, MOST, MOST}};
        for (int[] b : bad) {
            due("steer of " + java.util.Arrays.toString(b), x.steer(b[0], b[1], b[2], b[3], b[4], b[5]), NONE);
        }
        x.put(27, 2, 1);
        due("over water all are as good", x.steer(0, 29, 1, 0, 3, 3), 0);
        ShadowHerds y = new ShadowHerds();
        y.cloud(1, 1, 0, 9, 9);
        y.wind(0, 1, 0);
        y.terms(1, 6);
        due("turned is likelier", y.steer(0, 36, 1, 0, 3, 3), 1);
        y.terms(1, 5);
        due("as likely: the lowest", y.steer(0, 36, 1, 0, 3, 3), 1);
        y.terms(1, 4);
        due("as told is likelier", y.steer(0, 36, 1, 0, 3, 3), 2);
    }

    private static void sight() {
        ShadowHerds x = new ShadowHerds();
        due("the first", x.sight(0, 0, 0), 1);
        due("the second", x.sight(11, 63, 1), 2);
        int[][] bad = {{-1, 0, 0}, {12, 0, 0}, {0, -1, 0}, {0, 64, 0}, {0, 0, -1}, {0, 0, 2}, {LEAST, 0, 0}, {0, MOST, 0}};
        for (int[] b : bad) {
            due("sight(" + b[0] + ", " + b[1] + ", " + b[2] + ")", x.sight(b[0], b[1], b[2]), -1);
        }
        for (int i = 3; i <= 10; i++) {
            due("sight " + i, x.sight(0, 0, 0), i);
        }
        due("the eleventh", x.sight(0, 0, 0), -5);
        due("status", x.status(), -5);
        due("a wrong one", x.sight(0, 0, 2), -1);
        due("sights", x.count(3), 10);
        due("refused", x.count(6), bad.length + 1);
    }

    private static void forget() {
        ShadowHerds x = new ShadowHerds();
        due("none", x.forget(), 0);
        x.sight(0, 0, 1);
        x.sight(0, 9, 1);
        due("no stray", x.stray(1, 1, 0, NONE), 0);
        due("two", x.forget(), 2);
        due("none then", x.count(3), 0);
        due("all strays", x.stray(1, 1, 0, NONE), 576);
        due("the next one", x.sight(0, 0, 1), 1);
    }

    private static void stray() {
        ShadowHerds x = new ShadowHerds();
        due("all", x.stray(3, 3, 2, NONE), 576);
        due("the first", x.stray(3, 3, 2, 0), 0);
        due("the last", x.stray(3, 3, 2, 575), 575);
        due("beyond", x.stray(3, 3, 2, 576), NONE);
        x.sight(0, 9, 1);
        due("nine of them", x.stray(3, 3, 0, NONE), 9);
        due("the first: -1, -1", x.stray(3, 3, 0, 0), 24 * 7 + 7);
        due("the fourth: -1, 0", x.stray(3, 3, 0, 3), 24 * 8 + 7);
        due("the last: 1, 1", x.stray(3, 3, 0, 8), 24 * 9 + 9);
        x.sight(0, 8, 0);
        due("three of them", x.stray(3, 3, 0, NONE), 3);
        due("two wide", x.stray(2, 3, 0, NONE), 3);
        due("one tall", x.stray(3, 1, 0, NONE), 1);
        x.wind(1, 1, 0);
        x.sight(3, 12, 1);
        due("without wind", x.stray(1, 1, 0, NONE), 0);
        due("by the wind of its layer", x.stray(1, 1, 1, NONE), 1);
        due("where", x.stray(1, 1, 1, 0), 24 * 9 + 9);
        x.cloud(1, 1, 0, 1, 1);
        due("of it alone", x.stray(1, 1, 0, NONE), 0);
        int[][] bad = {{0, 1, 0, -1}, {4, 1, 0, -1}, {1, 0, 0, -1}, {1, 4, 0, -1}, {1, 1, -1, -1}, {1, 1, 3, -1}, {1, 1, 1, -2},
            {1, 1, 1, 1}, {1, 1, 1, MOST}, {1, 1, 1, LEAST}};
        for (int[] b : bad) {
            due("stray of " + java.util.Arrays.toString(b), x.stray(b[0], b[1], b[2], b[3]), NONE);
        }
        ShadowHerds y = under("bars");
        y.wind(0, -1, 0);
        y.sight(8, 0, 0);
        due("gone ones shade nothing", y.stray(1, 1, 0, NONE), 575);
        due("the first is gone", y.stray(1, 1, 0, 0), 0);
    }

    private static void rustled() {
        ShadowHerds x = new ShadowHerds();
        due("no cloud", x.rustled(NONE), 0);
        x.cloud(1, 1, 0, 3, 3);
        due("all without sights", x.rustled(NONE), 44);
        due("the first", x.rustled(0), 0);
        due("the fifth", x.rustled(4), 20);
        due("the last", x.rustled(43), 203);
        due("beyond", x.rustled(44), NONE);
        x.sight(2, 28, 1);
        due("two", x.rustled(NONE), 2);
        due("in hour 0", x.rustled(0), 1);
        due("in hour 1", x.rustled(1), 21);
        x.cloud(1, 1, 0, 5, 3);
        due("of the other one, too", x.rustled(NONE), 4);
        due("the second", x.rustled(1), 7);
        due("the fourth", x.rustled(3), 27);
        x.flag(0, 0, 0);
        due("one that has none in that hour", x.rustled(NONE), 2);
        due("of the other one", x.rustled(0), 7);
        x.sight(0, 0, 1);
        due("no way", x.rustled(NONE), 0);
        due("no first", x.rustled(0), NONE);
        due("below", x.rustled(-2), NONE);
        due("far off", x.rustled(MOST), NONE);
        ShadowHerds y = new ShadowHerds();
        for (int c = 0; c < 3; c++) {
            y.cloud(1, 1, 0, 3, 3);
        }
        for (int i = 0; i < 24; i++) {
            y.flag(i % 11, i / 11, i % 2 * 2);
        }
        due("beyond 24, too", y.rustled(NONE), 36);
        due("the first", y.rustled(0), 48);
        due("flags are as they were", y.count(1), 24);
        ShadowHerds z = still();
        z.put(27, 2, 1);
        z.sight(5, 27, 1);
        due("over water none of use", z.rustled(NONE), 44);
        z.sight(6, 27, 0);
        due("over water no way", z.rustled(NONE), 0);
    }

    private static void men() {
        ShadowHerds x = new ShadowHerds();
        due("no flag", x.men(), 0);
        x.cloud(1, 1, 0, 0, 0);
        x.cloud(1, 1, 1, 3, 0);
        x.flag(0, 0, 0);
        due("one", x.men(), 1);
        x.flag(2, 1, 0);
        due("too far", x.men(), 2);
        x.flag(5, 1, 2);
        due("the same man again", x.men(), 2);
        x.undo();
        x.undo();
        x.flag(3, 1, 0);
        due("just in time, for the corner at that hour", x.men(), 2 - 1);
        x.flag(4, 0, 0);
        due("another one", x.men(), 2);
        x.flag(8, 0, 0);
        due("the fewest", x.men(), 2);
        ShadowHerds y = new ShadowHerds();
        y.cloud(1, 1, 0, 2, 2);
        y.cloud(1, 1, 0, 2, 2);
        y.flag(3, 0, 0);
        y.flag(3, 1, 1);
        due("one corner in one hour", y.men(), 1);
        y.flag(4, 0, 3);
        y.flag(4, 1, 3);
        due("two corners in one hour", y.men(), 2);
        ShadowHerds z = new ShadowHerds();
        z.cloud(1, 1, 0, 15, 0);
        z.flag(0, 0, 1);
        z.flag(1, 0, 1);
        z.flag(2, 0, 1);
        due("gone ones need none", z.men(), 1);
        z.undo();
        z.undo();
        z.undo();
        z.wind(0, 1, 0);
        z.flag(1, 0, 1);
        due("gone ones need none", z.men(), 0);
        ShadowHerds w = new ShadowHerds();
        w.cloud(1, 1, 0, 0, 0);
        w.cloud(1, 1, 1, 2, 0);
        w.cloud(1, 1, 2, 4, 0);
        w.flag(0, 1, 0);
        w.flag(2, 0, 0);
        w.flag(2, 2, 0);
        w.flag(6, 1, 0);
        due("two ways from one", w.men(), 2);
        w.flag(0, 0, 0);
        w.flag(0, 2, 0);
        due("three", w.men(), 3);
    }

    private static void duel() {
        ShadowHerds x = still();
        due("at once", x.duel(0, 27, 0, 0), 1);
        due("hour 0 has no direction", x.duel(0, 27, 0, 1), NONE);
        due("not at once", x.duel(0, 28, 0, 0), 0);
        due("the other one flags it away", x.duel(0, 27, 1, 0), 0);
        due("no direction", x.duel(0, 27, 1, 1), NONE);
        x.put(27, 2, 1);
        due("over water none can", x.duel(0, 27, 1, 0), 1);
        due("the lowest", x.duel(0, 27, 1, 1), 0);
        ShadowHerds y = new ShadowHerds();
        y.cloud(3, 3, 0, 2, 2);
        due("a wide one", y.duel(0, 27, 5, 0), 1);
        due("its direction", y.duel(0, 27, 1, 1), 4);
        due("the edge of a wide one", y.duel(0, 19, 1, 0), 1);
        due("its direction", y.duel(0, 19, 1, 1), 0);
        due("the corner of a wide one", y.duel(0, 18, 1, 0), 0);
        due("no direction", y.duel(0, 18, 1, 1), NONE);
        int[][] bad = {{1, 0, 0, 0}, {-1, 0, 0, 0}, {0, 64, 0, 0}, {0, -1, 0, 0}, {0, 0, -1, 0}, {0, 0, 12, 0}, {0, 0, 0, 2},
            {0, 0, 0, -1}, {LEAST, MOST, MOST, MOST}};
        for (int[] b : bad) {
            due("duel of " + java.util.Arrays.toString(b), x.duel(b[0], b[1], b[2], b[3]), NONE);
        }
        ShadowHerds z = under("bars if hour = 0");
        z.cloud(1, 1, 0, 3, 3);
        z.wind(0, 1, 1);
        due("barred, by the wind", z.duel(0, 36, 1, 0), 1);
        due("then not", z.duel(0, 45, 2, 0), 0);
        z.flag(0, 0, 1);
        due("flags as told do not count", z.duel(0, 36, 1, 1), 0);
    }

    /** Draws as the document tells them, for one cloud of one field at 3, 3 by the wind 1, 0. */
    private static int[] daysOf(int seed, int n, int veer, int limit) {
        int[] days = new int[64];
        long s = seed;
        for (int day = 0; day < n; day++) {
            int x = 3;
            int y = 3;
            boolean gone = false;
            int[] heat = new int[64];
            boolean[] above = new boolean[64];
            for (int hour = 0; hour < 12; hour++) {
                for (int f = 0; f < 64; f++) {
                    boolean shade = !gone && x >= 0 && x < 8 && y >= 0 && y < 8 && f == 8 * y + x;
                    heat[f] = shade ? Math.max(0, heat[f] - 3) : heat[f] + 5;
                    above[f] |= heat[f] > limit;
                }
                if (hour < 11 && !gone) {
                    s = (s * 1103 + 12345) % 1000003;
                    if (s % 10 < veer) {
                        y++;
                    } else {
                        x++;
                    }
                    gone = x > 15 || y > 15;
                }
            }
            for (int f = 0; f < 64; f++) {
                days[f] += above[f] ? 1 : 0;
            }
        }
        return days;
    }

    private static void summer() {
        ShadowHerds x = new ShadowHerds();
        x.cloud(1, 1, 0, 3, 3);
        x.wind(0, 1, 0);
        for (int f = 0; f < 64; f++) {
            x.put(f, 1, 55);
        }
        int[][] summers = {{0, 1, 2}, {1000000, 30, 2}, {77, 7, 5}, {12345, 12, 0}, {4, 3, 10}};
        for (int[] s : summers) {
            x.terms(1, s[2]);
            int all = 0;
            int[] days = daysOf(s[0], s[1], s[2], 55);
            for (int f = 0; f < 64; f++) {
                all += days[f];
            }
            due("summer(" + s[0] + ", " + s[1] + ") with veer " + s[2], x.summer(s[0], s[1]), all);
            for (int f = 0; f < 64; f++) {
                due("drawn(" + f + ")", x.drawn(f), days[f]);
            }
        }
        int[][] bad = {{-1, 1}, {1000001, 1}, {0, 0}, {0, 31}, {LEAST, 1}, {MOST, MOST}};
        for (int[] b : bad) {
            due("summer(" + b[0] + ", " + b[1] + ")", x.summer(b[0], b[1]), -1);
        }
        due("status", x.status(), -1);
        due("refused", x.count(6), bad.length);
        due("the cloud is as it was", x.at(0, 1, 0), 4);
        ShadowHerds y = under("heats 10 if day = 3");
        y.terms(0, 3);
        due("day is as told on each day", y.summer(9, 2), 128);
        y.flag(0, 0, 0);
        y.put(0, 0, 99);
        y.put(0, 1, 219);
        due("from heat as told at first, above its limit", y.summer(9, 3), 63 * 3);
    }

    private static void drawn() {
        ShadowHerds x = new ShadowHerds();
        due("ahead of any", x.drawn(0), NONE);
        x.summer(0, 31);
        due("a refused one is none", x.drawn(0), NONE);
        x.put(5, 1, 59);
        x.summer(1, 9);
        due("on each day", x.drawn(5), 9);
        due("on none", x.drawn(4), 0);
        due("field 64", x.drawn(64), NONE);
        due("field -1", x.drawn(-1), NONE);
        due("far off", x.drawn(LEAST), NONE);
        x.image(0);
        x.put(5, 1, 60);
        due("the latest is kept", x.drawn(5), 9);
        x.summer(1, 0);
        due("a refused one does not count", x.drawn(5), 9);
        x.summer(1, 1);
        due("the next one", x.drawn(5), 0);
        x.back(0);
        due("an image does not keep it", x.drawn(5), 0);
    }

    private static void image() {
        ShadowHerds x = new ShadowHerds();
        due("image(2)", x.image(2), -1);
        due("image(-1)", x.image(-1), -1);
        due("image(MOST)", x.image(MOST), -1);
        due("status", x.status(), -1);
        due("refused", x.count(6), 3);
        due("image(0)", x.image(0), 0);
        due("status", x.status(), 0);
        x.put(0, 0, 7);
        due("image(1)", x.image(1), 0);
        x.put(0, 0, 8);
        x.back(0);
        due("of 0", x.fact(0, 0), 0);
        x.back(1);
        due("of 1", x.fact(0, 0), 7);
        x.put(0, 0, 9);
        x.image(0);
        x.put(0, 0, 10);
        x.back(0);
        due("kept anew", x.fact(0, 0), 9);
    }

    private static void back() {
        ShadowHerds x = under("worth 9");
        x.put(3, 0, 1);
        x.put(3, 1, 2);
        x.put(3, 2, 1);
        x.wind(1, 1, 0);
        x.cloud(1, 2, 1, 0, 0);
        x.flag(0, 0, 2);
        x.contract(1, 0, 0, 1, 8);
        x.sight(0, 0, 1);
        x.terms(0, 1);
        x.terms(1, 3);
        x.terms(2, 5);
        due("not kept", x.back(0), -2);
        due("status", x.status(), -2);
        due("wrong", x.back(2), -1);
        due("wrong", x.back(-1), -1);
        x.image(1);
        row(x, 0, 9, 9, 9, 9, 9);
        x.put(3, 0, 0);
        x.put(3, 2, 0);
        x.wind(1, 0, -1);
        x.cloud(1, 1, 1, 0, 0);
        x.undo();
        x.flag(1, 1, 0);
        x.flag(2, 1, 0);
        x.cancel();
        x.forget();
        x.sight(1, 1, 0);
        x.sight(1, 1, 0);
        x.terms(0, 2);
        x.terms(1, 4);
        x.terms(2, 6);
        law(x, "worth 4");
        x.force(1);
        tape(x, "abc");
        due("back(0), which was not kept", x.back(0), -2);
        for (int i = 0; i < 2; i++) {
            due("back(1)", x.back(1), 0);
            int[] counts = {1, 1, 1, 1, 1, 3};
            for (int k = 0; k < counts.length; k++) {
                due("count(" + k + ")", x.count(k), counts[k]);
            }
            due("heat", x.fact(3, 0), 1);
            due("limit", x.fact(3, 1), 2);
            due("limit", x.fact(4, 1), 100);
            due("water", x.fact(3, 2), 1);
            due("x by the wind", x.at(0, 5, 0), 5);
            due("y by the flag", x.at(0, 5, 1), 1);
            due("the contract", x.broken(0), 0);
            due("the sight", x.stray(1, 1, 0, 0), 200);
            due("day", x.count(12), 1);
            due("veer", x.count(13), 3);
            due("mood", x.count(14), 5);
            due("force", x.count(11), 0);
            due("worth", x.asks(0, 0, 3), 9);
            due("haze is not kept", x.haze(), 0);
            due("refused calls are not kept", x.count(7), 2);
            due("the next law", law(x, "worth 6"), 1);
            x.force(1);
            due("its worth", x.asks(0, 0, 3), 6);
            x.put(3, 0, 55);
            tape(x, "abc");
        }
    }

    private static void count() {
        ShadowHerds x = new ShadowHerds();
        x.cloud(1, 1, 0, 0, 0);
        x.cloud(1, 1, 0, 0, 0);
        x.flag(0, 0, 0);
        x.flag(1, 0, 0);
        x.flag(2, 0, 0);
        for (int i = 0; i < 4; i++) {
            x.contract(0, 0, 0, 0, 1);
        }
        for (int i = 0; i < 5; i++) {
            x.sight(0, 0, 0);
        }
        for (int i = 0; i < 6; i++) {
            law(x, "bars");
        }
        law(x, "bars");
        x.put(-1, 0, 0);
        x.wind(9, 0, 0);
        x.force(9);
        x.flag(0, 9, 0);
        x.back(1);
        x.flag(0, 0, 0);
        x.row();
        drives(x, "flag");
        drives(x, "flag 9 to 9 at 9");
        x.terms(0, 11);
        x.terms(1, 9);
        x.terms(2, 8);
        x.force(5);
        x.feed(0, 0, 0, 0, 0);
        x.end(13);
        int[] counts = {2, 3, 4, 5, 6, 13, 2, 3, 2, 1, 2, 5, 11, 9, 8};
        for (int i = 0; i < counts.length; i++) {
            due("count(" + i + ")", x.count(i), counts[i]);
        }
        due("count(15)", x.count(15), NONE);
        due("count(-1)", x.count(-1), NONE);
        due("count(MOST)", x.count(MOST), NONE);
        due("count(LEAST)", x.count(LEAST), NONE);
        x.image(0);
        x.put(64, 0, 0);
        x.back(0);
        due("images do not keep it", x.count(6), 3);
        x.fact(99, 0);
        x.of(99, 0);
        x.feed(0, 0, 0, 0, 0);
        x.end(99);
        x.heat(99, 99);
        x.at(9, 9, 9);
        x.broken(99);
        due("questions are not refused", x.count(6), 3);
    }

    private static void status() {
        ShadowHerds x = new ShadowHerds();
        due("ahead of any", x.status(), 0);
        x.row();
        due("row", x.status(), -6);
        due("status itself", x.status(), -6);
        x.count(99);
        x.fact(0, 0);
        x.feed(0, 0, 0, 0, 0);
        x.end(0);
        x.cancel();
        x.forget();
        x.haze();
        x.asks(0, 0, 0);
        x.men();
        x.drawn(0);
        due("others leave it", x.status(), -6);
        x.put(0, 0, 0);
        due("put", x.status(), 0);
        x.back(0);
        due("back", x.status(), -2);
        x.wind(0, 0, 0);
        due("wind", x.status(), 0);
        x.undo();
        due("undo", x.status(), -3);
        x.cloud(1, 1, 0, 0, 0);
        due("cloud", x.status(), 0);
        x.flag(11, 0, 0);
        due("flag", x.status(), -1);
        x.contract(0, 0, 0, 0, 1);
        due("contract", x.status(), 0);
        x.force(3);
        due("force", x.status(), -2);
        x.terms(0, 0);
        due("terms", x.status(), 0);
        law(x, "law");
        due("law", x.status(), -6);
        x.sight(0, 0, 0);
        due("sight", x.status(), 0);
        drives(x, "flag 0 to 0 at 99");
        due("drives", x.status(), -3);
        x.summer(1, 1);
        due("summer", x.status(), 0);
        x.image(5);
        due("image", x.status(), -1);
        x.image(0);
        due("image", x.status(), 0);
        x.summer(1, 0);
        due("summer", x.status(), -1);
        x.back(0);
        due("back", x.status(), 0);
        x.sight(0, 0, 9);
        due("sight", x.status(), -1);
        drives(x, "flag 0 to 0 at 0");
        due("drives", x.status(), 0);
        x.contract(0, 0, 0, 0, 0);
        due("contract", x.status(), -1);
        law(x, "bars");
        due("law", x.status(), 0);
        x.terms(0, -1);
        due("terms", x.status(), -1);
        x.undo();
        due("undo", x.status(), 0);
        x.cloud(0, 0, 0, 0, 0);
        due("cloud", x.status(), -1);
        x.force(0);
        due("force", x.status(), 0);
        x.wind(5, 5, 5);
        due("wind", x.status(), -1);
        row(x, 0, 1);
        due("row", x.status(), 0);
        x.put(0, 5, 5);
        due("put", x.status(), -1);
        x.flag(0, 0, 0);
        due("flag", x.status(), 0);
    }
}
