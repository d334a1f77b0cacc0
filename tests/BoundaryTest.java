import java.util.ArrayList;
import java.util.List;

/**
 * The boundary cases that the document names, each as a test of its own on a new object: the least and the greatest
 * numbers and those beyond them, none of a thing and as many as there is room for and one more, refused calls.
 */
public final class BoundaryTest {
    private static final int NONE = ShadowHerds.NONE;
    private static final int NOTHING = ShadowHerds.NOTHING;
    private static final int LEAST = Integer.MIN_VALUE;
    private static final int MOST = Integer.MAX_VALUE;
    private static final long CERTAIN = 1_000_000_000_000L;
    private static final int PROMISES = 47;

    private interface Body {
        void run(ShadowHerds x);
    }

    private interface Ask {
        long of(ShadowHerds x, int n);
    }

    private static final Body NEW = x -> { };
    private static final Body ONE_CLOUD = x -> x.cloud(1, 1, 0, 3, 3);

    private static int promise = 0;
    private static int tests = 0;
    private static int failed = 0;
    private static boolean wrong = false;
    private static String name = "";

    // ---- how a test is made ----

    private static void test(String title, Body body) {
        tests++;
        name = title;
        wrong = false;
        body.run(new ShadowHerds());
        if (wrong) {
            failed++;
        }
    }

    private static void is(long got, long want) {
        same(String.valueOf(got), String.valueOf(want));
    }

    private static void same(String got, String want) {
        if (!got.equals(want)) {
            wrong = true;
            System.out.println("promise " + promise + ", " + name + ": it is " + got + ", due is " + want);
        }
    }

    /** A call's number: both ends can be, those beyond them are refused and change nothing. */
    private static void numbers(String what, int least, int most, int why, Body ready, Ask call) {
        for (int n : new int[] {least, most}) {
            test(what + " " + n + " can be", x -> {
                ready.run(x);
                call.of(x, n);
                is(x.status(), 0);
                same(refusals(x), "0 0 0 0 0");
            });
        }
        for (int n : new int[] {least - 1, most + 1, LEAST, MOST}) {
            test(what + " " + n + " can't be", x -> refusing(x, why, ready, () -> call.of(x, n)));
        }
    }

    /** A question's number: both ends have another answer than those beyond them. */
    private static void asked(String what, int least, int most, long none, Body ready, Ask question) {
        for (int n : new int[] {least, most}) {
            test(what + " " + n + " has an answer", x -> {
                ready.run(x);
                same(question.of(x, n) == none ? "none" : "an answer", "an answer");
            });
        }
        for (int n : new int[] {least - 1, most + 1, LEAST, MOST}) {
            test(what + " " + n + " has none", x -> {
                ready.run(x);
                int status = x.status();
                String refused = refusals(x);
                is(question.of(x, n), none);
                is(x.status(), status);
                same(refusals(x), refused);
            });
        }
    }

    /** A call that is refused: its answer, status and count tell why, and all else is as it was. */
    private static void refused(String title, int why, Body ready, Ask call) {
        test(title, x -> refusing(x, why, ready, () -> call.of(x, 0)));
    }

    private static void refusing(ShadowHerds x, int why, Body ready, java.util.function.LongSupplier call) {
        ready.run(x);
        String before = print(x);
        int slot = why >= -3 ? 5 - why : 4 - why;
        int times = x.count(slot);
        is(call.getAsLong(), why);
        is(x.status(), why);
        is(x.count(slot), times + 1);
        same(print(x), before);
    }

    private static String refusals(ShadowHerds x) {
        return row(x.count(6), x.count(7), x.count(8), x.count(9), x.count(10));
    }

    private static String row(long... numbers) {
        StringBuilder all = new StringBuilder();
        for (long n : numbers) {
            all.append(all.length() == 0 ? "" : " ").append(n);
        }
        return all.toString();
    }

    /** What can be seen of the state, but for status() and refused calls, by far fewer than 512 calls. */
    private static String print(ShadowHerds x) {
        StringBuilder all = new StringBuilder();
        for (int what : new int[] {0, 1, 2, 3, 4, 5, 11, 12, 13, 14}) {
            all.append(x.count(what)).append(' ');
        }
        for (int field : new int[] {0, 9, 63}) {
            all.append(row(x.fact(field, 0), x.fact(field, 1), x.fact(field, 2))).append(' ');
        }
        for (int cloud = 0; cloud < 5; cloud++) {
            all.append(row(x.of(cloud, 0), x.of(cloud, 1), x.of(cloud, 2), x.of(cloud, 3), x.of(cloud, 4))).append(' ');
            all.append(row(x.at(cloud, 1, 0), x.at(cloud, 1, 1), x.at(cloud, 11, 0), x.at(cloud, 11, 1))).append(' ');
        }
        for (int contract = 0; contract < 8; contract++) {
            all.append(x.broken(contract)).append(' ');
        }
        for (int layer = 0; layer < 3; layer++) {
            all.append(row(x.stray(1, 1, layer, NONE), x.stray(1, 1, layer, 0))).append(' ');
        }
        all.append(row(x.judge(1), x.rustled(NONE), x.men(), x.asks(0, 0, 1), x.asks(0, 0, 2), x.asks(0, 0, 3))).append(' ');
        all.append(row(x.haze(), x.fault(), x.stopped(), x.drawn(0), x.drawn(63)));
        return all.toString();
    }

    // ---- texts: an @ marks the fault, and is not fed ----

    private static void tape(ShadowHerds x, String text) {
        x.end(0);
        for (int i = 0; i < text.length(); i += 20) {
            int[] n = new int[5];
            for (int k = 0; k < 20; k++) {
                n[k / 4] = n[k / 4] << 8 | (i + k < text.length() ? text.charAt(i + k) & 255 : 0);
            }
            x.feed(n[0], n[1], n[2], n[3], n[4]);
        }
        x.end(text.length());
    }

    private static String bytes(int... all) {
        StringBuilder text = new StringBuilder();
        for (int b : all) {
            text.append((char) b);
        }
        return text.toString();
    }

    private static int rowOf(ShadowHerds x, int... all) {
        tape(x, bytes(all));
        return x.row();
    }

    private static int law(ShadowHerds x, String text) {
        tape(x, text);
        return x.law();
    }

    private static int drives(ShadowHerds x, String text) {
        tape(x, text);
        return x.drives();
    }

    private static void rule(ShadowHerds x, String text) {
        is(x.force(law(x, text)), NONE);
    }

    private static void lawReads(String title, String text) {
        test("a law reads " + title, x -> {
            is(law(x, text), 0);
            is(x.fault(), NONE);
            is(x.count(4), 1);
            is(x.count(5), 0);
            is(x.status(), 0);
        });
    }

    private static void lawFaults(String title, String marked) {
        test("a law faults at " + title, x -> {
            is(law(x, marked.replace("@", "")), -6);
            is(x.fault(), marked.indexOf('@'));
            is(x.count(4), 0);
            is(x.count(5), 0);
            is(x.count(10), 1);
            is(x.status(), -6);
        });
    }

    private static void drivesFault(String title, String marked) {
        test("drives fault at " + title, x -> {
            x.cloud(1, 1, 0, 3, 3);
            x.flag(10, 0, 0);
            is(drives(x, marked.replace("@", "")), -6);
            is(x.fault(), marked.indexOf('@'));
            is(x.stopped(), NONE);
            is(x.count(1), 1);
            is(x.count(5), 0);
            is(x.count(10), 1);
            is(x.status(), -6);
        });
    }

    /** Drives with one still cloud at 3, 3, and as many flags as are told then. */
    private static void drivesTell(String title, String text, int flags) {
        test("drives: " + title, x -> {
            x.cloud(1, 1, 0, 3, 3);
            is(drives(x, text), flags);
            is(x.count(1), flags);
            is(x.fault(), NONE);
            is(x.stopped(), NONE);
            is(x.status(), 0);
            is(x.count(5), 0);
        });
    }

    /** Drives that stop in that clause with one still cloud that has a flag in hour 10: all is as it was. */
    private static void drivesStop(String title, String text, int clause) {
        test("drives stop: " + title, x -> {
            x.cloud(1, 1, 0, 3, 3);
            x.flag(10, 0, 2);
            is(drives(x, text), -3);
            is(x.stopped(), clause);
            is(x.fault(), NONE);
            is(x.count(1), 1);
            is(x.status(), -3);
            is(x.count(8), 1);
            is(x.count(5), 0);
            is(x.at(0, 10, 0) * 10 + x.at(0, 10, 1), 33);
            is(x.at(0, 11, 1), 4);
            is(x.undo(), 10);
        });
    }

    /** What the shade of field 11 (3, 1) is worth in hour 5 by a sum; 1, if the sum is broken. */
    private static void worth(String title, String sum, int want) {
        test(title, x -> {
            rule(x, "worth " + sum);
            is(x.asks(11, 5, 3), want);
        });
    }

    /** Whether a test is so of field 11 (3, 1) in hour 5. */
    private static void so(String title, String test, boolean want) {
        test(title, x -> {
            rule(x, "worth 7 if " + test);
            is(x.asks(11, 5, 3), want ? 7 : 1);
        });
    }

    private static String repeat(String part, String between, int times) {
        List<String> all = new ArrayList<>();
        for (int i = 0; i < times; i++) {
            all.add(part);
        }
        return String.join(between, all);
    }

    private static void fiveClouds(ShadowHerds x) {
        for (int i = 0; i < 5; i++) {
            x.cloud(1, 1, 0, 3, 3);
        }
    }

    /** 24 flags of clouds 0, 1, 2; cloud 2 has flags in hours 0 and 1 alone. */
    private static void allFlags(ShadowHerds x) {
        for (int i = 0; i < 3; i++) {
            x.cloud(1, 1, 0, 3, 3);
        }
        for (int i = 0; i < 24; i++) {
            x.flag(i % 11, i / 11, i % 2 * 2);
        }
    }

    private static void allContracts(ShadowHerds x) {
        for (int i = 0; i < 8; i++) {
            x.contract(i, 0, 11, 0, 1);
        }
    }

    private static void allSights(ShadowHerds x) {
        for (int i = 0; i < 10; i++) {
            x.sight(0, i, 0);
        }
    }

    private static void allLaws(ShadowHerds x) {
        for (int i = 0; i < 6; i++) {
            law(x, "worth 10 + " + i);
        }
    }

    /** A plain on which each question has something to say. */
    private static void busy(ShadowHerds x) {
        x.cloud(1, 1, 0, 2, 3);
        x.cloud(3, 3, 1, 3, 2);
        x.cloud(2, 1, 2, 6, 6);
        x.wind(0, 1, 0);
        x.wind(2, -1, 0);
        x.put(28, 2, 1);
        x.put(36, 1, 20);
        rule(x, "worth x + y; heats hour; cools shade; bars if hour = 5");
        x.flag(1, 0, 2);
        x.flag(2, 2, 0);
        x.flag(4, 1, 3);
        x.contract(28, 2, 3, 1, 9);
        x.contract(36, 4, 4, 1, 8);
        x.contract(20, 1, 6, 0, 7);
        x.sight(2, 28, 1);
        x.sight(3, 9, 0);
    }

    private static final Ask[] QUESTIONS = {(x, n) -> x.asks(28, 3, 1), (x, n) -> x.at(1, 7, 1), (x, n) -> x.dark(4), (x, n) -> x.heat(36, 9),
        (x, n) -> x.scorched(3), (x, n) -> x.broken(1), (x, n) -> x.judge(1), (x, n) -> x.drive(1, 63, 8, 9, 6), (x, n) -> x.drive(0, 27, 3, 4, 0),
        (x, n) -> x.pasture(1, 11, 5), (x, n) -> x.pasture(0, 2, NONE), (x, n) -> x.serve(1, 1), (x, n) -> x.serve(0, 0),
        (x, n) -> x.cross(0, 1, 1), (x, n) -> x.part(0, 1), (x, n) -> x.part(2, 1), (x, n) -> x.likely(0, 30, 5), (x, n) -> x.likely(2, 52, 1),
        (x, n) -> x.surest(0, 45, 4), (x, n) -> x.surest(1, 28, 11), (x, n) -> x.steer(0, 45, 4, 1, 3, 3), (x, n) -> x.steer(2, 9, 11, 0, 4, 4),
        (x, n) -> x.stray(2, 2, 0, 3), (x, n) -> x.rustled(7), (x, n) -> x.men(), (x, n) -> x.duel(1, 28, 2, 1), (x, n) -> x.duel(1, 36, 9, 0),
        (x, n) -> x.duel(1, 27, 1, 0), (x, n) -> x.summer(5, 2)};

    /** A question is answered as on a new plain, whatever was asked ahead of it. */
    private static void undisturbed(String what, Ask question) {
        test(what + ": what was asked ahead does not matter", x -> {
            busy(x);
            long alone = question.of(x, 0);
            for (Ask other : QUESTIONS) {
                ShadowHerds y = new ShadowHerds();
                busy(y);
                other.of(y, 0);
                is(question.of(y, 0), alone);
            }
            for (int i = QUESTIONS.length - 1; i >= 0; i--) {
                QUESTIONS[i].of(x, 0);
                is(question.of(x, 0), alone);
            }
        });
    }

    /** A cloud that the wind brings from the sky's last corner or its first: over field 63 or 0 in hour 8. */
    private static void fromCorner(String what, Body last, Body first) {
        test(what + ": from the last corner", x -> {
            x.cloud(1, 1, 0, 15, 15);
            x.wind(0, -1, -1);
            x.terms(1, 0);
            last.run(x);
        });
        test(what + ": from the first corner", x -> {
            x.cloud(1, 1, 0, -8, -8);
            x.wind(0, 1, 1);
            x.terms(1, 0);
            first.run(x);
        });
    }

    // ---- promises 1 to 15 ----

    private static void newObject() {
        String[] things = {"cloud", "flag", "contract", "sight", "law", "byte"};
        for (int what = 0; what < things.length; what++) {
            int k = what;
            test("there is no " + things[what] + " at first", x -> is(x.count(k), 0));
        }
        for (int what = 6; what <= 10; what++) {
            int k = what;
            test("no call is refused at first, what " + what, x -> is(x.count(k), 0));
        }
        test("no law is in force at first", x -> is(x.count(11), NONE));
        test("day is 0 at first", x -> is(x.count(12), 0));
        test("veer is 2 at first", x -> is(x.count(13), 2));
        test("mood is 0 at first", x -> is(x.count(14), 0));
        for (int field : new int[] {0, 63}) {
            test("heat of field " + field + " is 0 at first", x -> is(x.fact(field, 0), 0));
            test("limit of field " + field + " is 100 at first", x -> is(x.fact(field, 1), 100));
            test("field " + field + " is no water at first", x -> is(x.fact(field, 2), 0));
        }
        for (int layer = 0; layer < 3; layer++) {
            int k = layer;
            test("there is no wind in layer " + layer + " at first", x -> {
                x.cloud(1, 1, k, 3, 4);
                is(x.at(0, 11, 0), 3);
                is(x.at(0, 11, 1), 4);
            });
        }
        for (int image = 0; image < 2; image++) {
            int k = image;
            test("image " + image + " is not kept at first", x -> is(x.back(k), -2));
        }
        test("nothing is dark at first", x -> is(x.dark(0) + x.dark(11), 0));
        test("no field is scorched at first", x -> is(x.scorched(NONE), 0));
        test("status is 0 at first", x -> is(x.status(), 0));
        test("there is no fault at first", x -> is(x.fault(), NONE));
        test("no drives stopped at first", x -> is(x.stopped(), NONE));
        test("there is no haze at first", x -> is(x.haze(), 0));
        test("there was no summer at first", x -> is(x.drawn(0), NONE));
        test("one object knows nothing of another one", x -> {
            ShadowHerds other = new ShadowHerds();
            String before = print(other);
            x.put(0, 0, 9);
            x.wind(0, 1, 0);
            x.cloud(1, 1, 0, 0, 0);
            x.flag(0, 0, 0);
            x.terms(0, 9);
            rule(x, "worth 9");
            x.image(0);
            x.flag(0, 0, 0);
            same(print(other), before);
            is(other.back(0), -2);
            is(other.status(), -2);
        });
        test("NONE is -1", x -> is(ShadowHerds.NONE, -1));
        test("the 512th call is answered like the first", x -> {
            x.image(0);
            for (int i = 0; i < 102; i++) {
                x.feed(0x776f7274, 0x68203920, 0x20202020, 0x20202020, 0x20202020);
                x.law();
                x.cloud(1, 1, 0, 3, 3);
                x.force(0);
                x.back(0);
            }
            is(x.asks(0, 0, 3), 1);
        });
        test("NOTHING is -1000", x -> is(ShadowHerds.NOTHING, -1000));
    }

    private static void put() {
        numbers("put: field", 0, 63, -1, NEW, (x, n) -> x.put(n, 0, 5));
        numbers("put: what", 0, 2, -1, NEW, (x, n) -> x.put(0, n, 1));
        numbers("put: heat", 0, 99, -1, x -> x.put(0, 0, 50), (x, n) -> x.put(0, 0, n));
        numbers("put: limit", 1, 999, -1, x -> x.put(0, 1, 500), (x, n) -> x.put(0, 1, n));
        numbers("put: water", 0, 1, -1, NEW, (x, n) -> x.put(0, 2, n));
        int[][] ends = {{0, 0, 99, 0}, {1, 1, 999, 100}, {2, 0, 1, 0}};
        for (int[] e : ends) {
            test("put tells what it was, what " + e[0], x -> {
                is(x.put(63, e[0], e[2]), e[3]);
                is(x.put(63, e[0], e[1]), e[2]);
                is(x.put(63, e[0], e[2]), e[1]);
                is(x.fact(63, e[0]), e[2]);
            });
        }
        test("put of one field leaves the next ones", x -> {
            x.put(8, 0, 7);
            is(x.fact(7, 0) + x.fact(9, 0), 0);
        });
        test("put of heat leaves limit and water", x -> {
            x.put(8, 0, 7);
            is(x.fact(8, 1), 100);
            is(x.fact(8, 2), 0);
        });
    }

    private static void fact() {
        asked("fact: field", 0, 63, NONE, NEW, (x, n) -> x.fact(n, 0));
        asked("fact: what", 0, 2, NONE, NEW, (x, n) -> x.fact(0, n));
        test("fact tells the greatest numbers", x -> {
            x.put(63, 0, 99);
            x.put(63, 1, 999);
            x.put(63, 2, 1);
            same(row(x.fact(63, 0), x.fact(63, 1), x.fact(63, 2)), "99 999 1");
        });
        test("fact tells the least numbers", x -> {
            x.put(0, 0, 9);
            x.put(0, 0, 0);
            x.put(0, 1, 1);
            x.put(0, 2, 1);
            x.put(0, 2, 0);
            same(row(x.fact(0, 0), x.fact(0, 1), x.fact(0, 2)), "0 1 0");
        });
    }

    private static void wind() {
        Body three = x -> {
            for (int layer = 0; layer < 3; layer++) {
                x.cloud(1, 1, layer, 3, 3);
                x.wind(layer, 1, -1);
            }
        };
        numbers("wind: layer", 0, 2, -1, three, (x, n) -> x.wind(n, 0, 0));
        numbers("wind: x", -1, 1, -1, three, (x, n) -> x.wind(0, n, 0));
        numbers("wind: y", -1, 1, -1, three, (x, n) -> x.wind(0, 0, n));
        for (int way = 0; way < 9; way++) {
            int wx = way % 3 - 1;
            int wy = way / 3 - 1;
            test("wind " + wx + ", " + wy + " goes so", x -> {
                x.cloud(1, 1, 2, 3, 3);
                is(x.wind(2, wx, wy), 0);
                is(x.at(0, 4, 0), 3 + 4 * wx);
                is(x.at(0, 4, 1), 3 + 4 * wy);
            });
        }
        test("wind of one layer leaves the others", x -> {
            three.run(x);
            x.wind(1, -1, 1);
            same(row(x.at(0, 1, 0), x.at(1, 1, 0), x.at(2, 1, 0)), "4 2 4");
            same(row(x.at(0, 1, 1), x.at(1, 1, 1), x.at(2, 1, 1)), "2 4 2");
        });
        test("the wind told last counts", x -> {
            three.run(x);
            x.wind(0, 0, 1);
            is(x.at(0, 11, 0), 3);
            is(x.at(0, 11, 1), 14);
        });
    }

    private static void cloud() {
        numbers("cloud: wide", 1, 3, -1, NEW, (x, n) -> x.cloud(n, 1, 0, 0, 0));
        numbers("cloud: tall", 1, 3, -1, NEW, (x, n) -> x.cloud(1, n, 0, 0, 0));
        numbers("cloud: layer", 0, 2, -1, NEW, (x, n) -> x.cloud(1, 1, n, 0, 0));
        numbers("cloud: x", -8, 15, -1, NEW, (x, n) -> x.cloud(1, 1, 0, n, 0));
        numbers("cloud: y", -8, 15, -1, NEW, (x, n) -> x.cloud(1, 1, 0, 0, n));
        test("five clouds have room", x -> {
            for (int i = 0; i < 5; i++) {
                is(x.cloud(1, 1, 0, i, i), i);
            }
            is(x.count(0), 5);
        });
        refused("a sixth cloud has no room", -5, BoundaryTest::fiveClouds, (x, n) -> x.cloud(1, 1, 0, 0, 0));
        refused("cloud: a wrong number comes ahead of no room", -1, BoundaryTest::fiveClouds, (x, n) -> x.cloud(4, 1, 0, 0, 0));
        test("a refused cloud takes no number", x -> {
            x.cloud(0, 1, 0, 0, 0);
            is(x.cloud(1, 1, 0, 0, 0), 0);
        });
        test("there is room again when all is gone back to", x -> {
            x.image(0);
            fiveClouds(x);
            x.back(0);
            is(x.cloud(1, 1, 0, 0, 0), 0);
        });
    }

    private static void of() {
        asked("of: cloud of one", 0, 0, NOTHING, ONE_CLOUD, (x, n) -> x.of(n, 0));
        asked("of: cloud of five", 0, 4, NOTHING, BoundaryTest::fiveClouds, (x, n) -> x.of(n, 0));
        asked("of: what", 0, 4, NOTHING, ONE_CLOUD, (x, n) -> x.of(0, n));
        test("of no cloud there is nothing", x -> is(x.of(0, 0), NOTHING));
        test("of the least cloud", x -> {
            x.cloud(1, 1, 0, -8, -8);
            same(row(x.of(0, 0), x.of(0, 1), x.of(0, 2), x.of(0, 3), x.of(0, 4)), "1 1 0 -8 -8");
        });
        test("of the greatest cloud", x -> {
            x.cloud(3, 3, 2, 15, 15);
            same(row(x.of(0, 0), x.of(0, 1), x.of(0, 2), x.of(0, 3), x.of(0, 4)), "3 3 2 15 15");
        });
        test("of wide and tall, x and y apart", x -> {
            x.cloud(3, 1, 1, -1, 7);
            same(row(x.of(0, 0), x.of(0, 1), x.of(0, 2), x.of(0, 3), x.of(0, 4)), "3 1 1 -1 7");
        });
        test("of is told of hour 0, whatever goes on", x -> {
            x.cloud(1, 1, 0, 15, 0);
            x.wind(0, 1, 0);
            x.flag(0, 0, 1);
            is(x.of(0, 3), 15);
            is(x.of(0, 4), 0);
        });
    }

    private static void flag() {
        numbers("flag: hour", 0, 10, -1, ONE_CLOUD, (x, n) -> x.flag(n, 0, 0));
        numbers("flag: direction", 0, 3, -1, ONE_CLOUD, (x, n) -> x.flag(0, 0, n));
        numbers("flag: cloud of one", 0, 0, -2, ONE_CLOUD, (x, n) -> x.flag(0, n, 0));
        numbers("flag: cloud of five", 0, 4, -2, BoundaryTest::fiveClouds, (x, n) -> x.flag(0, n, 0));
        refused("flag: there is no cloud", -2, NEW, (x, n) -> x.flag(0, 0, 0));
        refused("flag: a wrong hour comes ahead of no such cloud", -1, NEW, (x, n) -> x.flag(11, 0, 0));
        refused("flag: a wrong direction comes ahead of no such cloud", -1, NEW, (x, n) -> x.flag(0, 0, 4));
        Body told = x -> {
            x.cloud(1, 1, 0, 3, 3);
            x.flag(4, 0, 1);
        };
        refused("flag: that cloud has one in that hour", -3, told, (x, n) -> x.flag(4, 0, 2));
        refused("flag: the same one again", -3, told, (x, n) -> x.flag(4, 0, 1));
        refused("flag: a wrong direction comes ahead of one in that hour", -1, told, (x, n) -> x.flag(4, 0, 4));
        refused("flag: a 25th has no room", -5, BoundaryTest::allFlags, (x, n) -> x.flag(5, 2, 0));
        refused("flag: one in that hour comes ahead of no room", -3, BoundaryTest::allFlags, (x, n) -> x.flag(1, 2, 0));
        refused("flag: no such cloud comes ahead of no room", -2, BoundaryTest::allFlags, (x, n) -> x.flag(5, 3, 0));
        refused("flag: a wrong number comes ahead of no room", -1, BoundaryTest::allFlags, (x, n) -> x.flag(11, 2, 0));
        test("24 flags have room", x -> {
            for (int i = 0; i < 3; i++) {
                x.cloud(1, 1, 0, 3, 3);
            }
            for (int i = 0; i < 24; i++) {
                is(x.flag(i % 11, i / 11, 0), i + 1);
            }
            is(x.count(1), 24);
        });
        test("a cloud can have a flag in each of the hours 0 to 10", x -> {
            x.cloud(1, 1, 0, 3, 3);
            for (int hour = 0; hour <= 10; hour++) {
                is(x.flag(hour, 0, hour % 2 * 2), hour + 1);
            }
            is(x.at(0, 11, 1), 2);
        });
        test("two clouds can have flags in one hour", x -> {
            fiveClouds(x);
            is(x.flag(0, 0, 0), 1);
            is(x.flag(0, 4, 0), 2);
        });
        test("a cloud can have flags in two hours", x -> {
            told.run(x);
            is(x.flag(3, 0, 1), 2);
            is(x.flag(5, 0, 1), 3);
        });
        test("there is room again for a flag that was undone", x -> {
            allFlags(x);
            is(x.undo(), 1);
            is(x.flag(1, 2, 3), 24);
        });
        String[] ways = {"3 2", "4 3", "3 4", "2 3"};
        for (int direction = 0; direction < 4; direction++) {
            int d = direction;
            test("a flag in direction " + direction + " goes so", x -> {
                x.cloud(1, 1, 0, 3, 3);
                x.flag(10, 0, d);
                same(row(x.at(0, 10, 0), x.at(0, 10, 1)), "3 3");
                same(row(x.at(0, 11, 0), x.at(0, 11, 1)), ways[d]);
            });
        }
    }

    private static void undo() {
        refused("undo: there is no flag", -3, NEW, (x, n) -> x.undo());
        refused("undo: there is none any more", -3, x -> {
            ONE_CLOUD.run(x);
            x.flag(0, 0, 0);
            x.undo();
        }, (x, n) -> x.undo());
        for (int hour : new int[] {0, 10}) {
            test("undo tells hour " + hour, x -> {
                x.cloud(1, 1, 0, 3, 3);
                x.flag(hour, 0, 1);
                is(x.undo(), hour);
                is(x.count(1), 0);
                is(x.at(0, 11, 0), 3);
                is(x.status(), 0);
            });
        }
        test("undo goes by when flags were told, not by hours", x -> {
            x.cloud(1, 1, 0, 3, 3);
            x.flag(5, 0, 1);
            x.flag(9, 0, 1);
            x.flag(2, 0, 1);
            same(row(x.undo(), x.undo(), x.undo()), "2 9 5");
        });
        test("all 24 flags can be undone", x -> {
            allFlags(x);
            for (int i = 23; i >= 0; i--) {
                is(x.undo(), i % 11);
            }
            is(x.undo(), -3);
        });
        test("a flag that was refused can't be undone", x -> {
            x.cloud(1, 1, 0, 3, 3);
            x.flag(7, 0, 0);
            x.flag(7, 0, 1);
            is(x.undo(), 7);
            is(x.undo(), -3);
        });
        test("flags by drives are undone one by one, too", x -> {
            x.cloud(1, 1, 0, 3, 3);
            drives(x, "flag 0 to 0 at 6; flag 0 to 0 at 3");
            same(row(x.undo(), x.undo(), x.undo()), "3 6 -3");
        });
        test("drives that stopped leave the flag told latest", x -> {
            x.cloud(1, 1, 0, 3, 3);
            x.flag(8, 0, 0);
            drives(x, "flag 0 to 0 at 1; flag 0 to 0 at 1");
            same(row(x.undo(), x.undo()), "8 -3");
        });
    }

    private static void contract() {
        numbers("contract: field", 0, 63, -1, NEW, (x, n) -> x.contract(n, 0, 0, 1, 1));
        numbers("contract: from", 0, 11, -1, NEW, (x, n) -> x.contract(0, n, 11, 1, 1));
        numbers("contract: till", 0, 11, -1, NEW, (x, n) -> x.contract(0, 0, n, 1, 1));
        numbers("contract: both hours", 0, 11, -1, NEW, (x, n) -> x.contract(0, n, n, 1, 1));
        numbers("contract: is", 0, 1, -1, NEW, (x, n) -> x.contract(0, 0, 0, n, 1));
        numbers("contract: fee", 1, 99, -1, NEW, (x, n) -> x.contract(0, 0, 0, 1, n));
        refused("contract: till just ahead of from", -1, NEW, (x, n) -> x.contract(0, 5, 4, 1, 1));
        refused("contract: till far ahead of from", -1, NEW, (x, n) -> x.contract(0, 11, 0, 1, 1));
        test("eight contracts have room", x -> {
            for (int i = 0; i < 8; i++) {
                is(x.contract(0, 0, 0, 1, 1), i);
            }
            is(x.count(2), 8);
        });
        refused("contract: a ninth has no room", -5, BoundaryTest::allContracts, (x, n) -> x.contract(0, 0, 0, 1, 1));
        refused("contract: a wrong number comes ahead of no room", -1, BoundaryTest::allContracts, (x, n) -> x.contract(0, 0, 0, 1, 100));
        test("a refused contract takes no number", x -> {
            x.contract(0, 1, 0, 1, 1);
            is(x.contract(0, 0, 0, 1, 1), 0);
        });
    }

    private static void cancel() {
        test("cancel: there were none", x -> is(x.cancel(), 0));
        test("cancel: there was one", x -> {
            x.contract(0, 0, 0, 1, 1);
            is(x.cancel(), 1);
            is(x.count(2), 0);
        });
        test("cancel: there were eight", x -> {
            allContracts(x);
            is(x.cancel(), 8);
            is(x.count(2), 0);
            is(x.cancel(), 0);
        });
        test("cancel: none is broken or pays then", x -> {
            x.contract(0, 0, 0, 1, 9);
            x.contract(0, 0, 0, 0, 9);
            x.cancel();
            same(row(x.broken(0), x.judge(0), x.judge(1)), "-1 -1 0");
        });
        test("cancel: numbers begin anew, there is room for eight", x -> {
            allContracts(x);
            x.cancel();
            for (int i = 0; i < 8; i++) {
                is(x.contract(0, 0, 0, 1, 1), i);
            }
            is(x.contract(0, 0, 0, 1, 1), -5);
        });
        test("cancel: of none it is not refused", x -> {
            x.undo();
            x.cancel();
            is(x.status(), -3);
            same(refusals(x), "0 0 1 0 0");
        });
    }

    private static void terms() {
        numbers("terms: what", 0, 2, -1, NEW, (x, n) -> x.terms(n, 5));
        numbers("terms: day", 0, 99, -1, NEW, (x, n) -> x.terms(0, n));
        numbers("terms: veer", 0, 10, -1, NEW, (x, n) -> x.terms(1, n));
        numbers("terms: mood", 0, 9, -1, NEW, (x, n) -> x.terms(2, n));
        int[][] ends = {{0, 0, 99, 0}, {1, 0, 10, 2}, {2, 0, 9, 0}};
        for (int[] e : ends) {
            test("terms tell what it was, what " + e[0], x -> {
                is(x.terms(e[0], e[2]), e[3]);
                is(x.terms(e[0], e[1]), e[2]);
                is(x.terms(e[0], e[2]), e[1]);
                is(x.count(12 + e[0]), e[2]);
            });
        }
        test("terms are three", x -> {
            x.terms(0, 7);
            x.terms(1, 8);
            x.terms(2, 9);
            same(row(x.count(12), x.count(13), x.count(14)), "7 8 9");
        });
    }

    private static void feed() {
        test("feed: twenty bytes of none", x -> {
            is(x.feed(0, 0, 0, 0, 0), 20);
            is(x.count(5), 20);
        });
        test("feed: 400 bytes have room", x -> {
            for (int i = 1; i <= 20; i++) {
                is(x.feed(1, 1, 1, 1, 1), 20 * i);
            }
            is(x.count(5), 400);
        });
        for (int length : new int[] {381, 399, 400}) {
            test("feed: behind " + length + " bytes there would be more than 400", x -> {
                for (int i = 0; i < 20; i++) {
                    x.feed(0x03090909, 0, 0, 0, 0);
                }
                x.end(length);
                is(x.feed(0, 0, 0, 0, 0), NONE);
                is(x.count(5), length);
                is(x.status(), 0);
                same(refusals(x), "0 0 0 0 0");
                is(x.row(), 3);
            });
        }
        test("feed: behind 380 bytes there are 400", x -> {
            for (int i = 0; i < 20; i++) {
                x.feed(0, 0, 0, 0, 0);
            }
            x.end(380);
            is(x.feed(0, 0, 0, 0, 0), 400);
        });
        test("feed: the highest byte first, none of them below 0", x -> {
            x.feed(0x02ff80fe, 0x7f010203, -1, LEAST, MOST);
            x.end(9);
            is(x.row(), 8);
            int[] limits = {255, 128, 254, 127, 1, 2, 3, 255};
            for (int i = 0; i < 8; i++) {
                is(x.fact(16 + i, 1), limits[i]);
            }
        });
        test("feed: the numbers in their order", x -> {
            x.feed(0x00010203, 0x04050607, 0x08000000, 0, 0);
            x.row();
            for (int i = 0; i < 8; i++) {
                is(x.fact(i, 1), i + 1);
            }
        });
        test("feed: the last one's bytes, too", x -> {
            x.feed(0x62617273, 0x20202020, 0x20202020, 0x20202020, 0x2020203b);
            is(x.law(), -6);
            is(x.fault(), 20);
        });
        test("feed: bytes come behind those that are there", x -> {
            x.feed(0x01000000, 0, 0, 0, 0);
            x.end(1);
            is(x.feed(0x07080000, 0, 0, 0, 0), 21);
            x.row();
            is(x.fact(8, 1), 7);
            is(x.fact(9, 1), 8);
        });
    }

    private static void end() {
        Body twenty = x -> x.feed(0x01020304, 0x05060708, 0x090a0b0c, 0, 0);
        asked("end: n of 20", 0, 20, NONE, twenty, (x, n) -> x.end(n));
        asked("end: n of none", 0, 0, NONE, NEW, (x, n) -> x.end(n));
        test("end: n of 400", x -> {
            for (int i = 0; i < 20; i++) {
                x.feed(0, 0, 0, 0, 0);
            }
            is(x.end(401), NONE);
            is(x.end(400), 400);
            is(x.end(399), 399);
            is(x.end(400), NONE);
        });
        test("end: it has its first bytes alone", x -> {
            twenty.run(x);
            is(x.end(2), 2);
            is(x.count(5), 2);
            is(x.row(), 1);
            is(x.fact(8, 1), 2);
            is(x.fact(9, 1), 100);
        });
        test("end: of 0 the tape is empty", x -> {
            twenty.run(x);
            is(x.end(0), 0);
            is(x.row(), -6);
        });
        for (int n : new int[] {-1, 21}) {
            test("end: by " + n + " the tape is left", x -> {
                twenty.run(x);
                is(x.end(n), NONE);
                is(x.count(5), 20);
                is(x.row(), 8);
            });
        }
        test("end: what was cut off does not come back", x -> {
            twenty.run(x);
            x.end(1);
            x.feed(0, 0, 0, 0, 0);
            is(x.row(), 0);
        });
    }

    private static void row() {
        for (int y : new int[] {0, 7}) {
            test("row: y " + y + " can be", x -> {
                is(rowOf(x, y, 1, 1, 1, 1, 1, 1, 1, 255), 8);
                is(x.fact(8 * y, 1), 1);
                is(x.fact(8 * y + 7, 1), 255);
                is(x.status(), 0);
                is(x.count(5), 0);
            });
        }
        for (int y : new int[] {8, 255}) {
            test("row: there is no y " + y, x -> {
                is(rowOf(x, y, 9, 9, 9), -6);
                is(x.status(), -6);
                is(x.count(10), 1);
                is(x.count(5), 0);
                is(x.fact(0, 1), 100);
                is(x.fact(63, 1), 100);
            });
        }
        refused("row: the tape is empty", -6, NEW, (x, n) -> x.row());
        refused("row: the tape is empty again", -6, x -> rowOf(x, 0, 1), (x, n) -> x.row());
        test("row: y alone tells no limit", x -> {
            is(rowOf(x, 3), 0);
            is(x.status(), 0);
            is(x.count(5), 0);
            is(x.fact(24, 1), 100);
        });
        for (int limit : new int[] {1, 255}) {
            test("row: limit " + limit + " can be", x -> {
                is(rowOf(x, 0, limit), 1);
                is(x.fact(0, 1), limit);
            });
        }
        test("row: 0 leaves a field as it was", x -> {
            x.put(1, 1, 999);
            is(rowOf(x, 0, 5, 0, 6), 2);
            same(row(x.fact(0, 1), x.fact(1, 1), x.fact(2, 1)), "5 999 6");
        });
        test("row: 0 alone tells no limit", x -> is(rowOf(x, 0, 0), 0));
        test("row: fields without a byte are left", x -> {
            is(rowOf(x, 1, 5), 1);
            is(x.fact(9, 1), 100);
        });
        test("row: eight limits, bytes beyond x 7 tell none", x -> {
            is(rowOf(x, 0, 1, 2, 3, 4, 5, 6, 7, 8, 9, 10), 8);
            is(x.fact(7, 1), 8);
            is(x.fact(8, 1), 100);
        });
        test("row: beyond x 7 of y 7 there is nothing", x -> {
            is(rowOf(x, 7, 1, 2, 3, 4, 5, 6, 7, 8, 9, 10), 8);
            is(x.fact(63, 1), 8);
        });
        test("row: a tape of 400 bytes", x -> {
            for (int i = 0; i < 20; i++) {
                x.feed(0x02020202, 0x02020202, 0x02020202, 0x02020202, 0x02020202);
            }
            is(x.row(), 8);
            is(x.haze(), 391);
            is(x.count(5), 0);
        });
        test("row: heat and water are left", x -> {
            x.put(0, 0, 4);
            x.put(0, 2, 1);
            rowOf(x, 0, 9);
            is(x.fact(0, 0), 4);
            is(x.fact(0, 2), 1);
        });
    }

    private static void haze() {
        test("haze: 0 ahead of any row", x -> is(x.haze(), 0));
        test("haze: 0 if the only row was refused", x -> {
            rowOf(x, 8, 0, 0, 0);
            is(x.haze(), 0);
        });
        test("haze: none of y alone", x -> {
            rowOf(x, 0, 0);
            rowOf(x, 0);
            is(x.haze(), 0);
        });
        test("haze: none of eight limits", x -> {
            rowOf(x, 0, 1, 255, 1, 1, 1, 1, 1, 255);
            is(x.haze(), 0);
        });
        test("haze: one of a 0", x -> {
            rowOf(x, 0, 1, 0, 1);
            is(x.haze(), 1);
        });
        test("haze: one of a byte beyond x 7", x -> {
            rowOf(x, 0, 1, 1, 1, 1, 1, 1, 1, 1, 1);
            is(x.haze(), 1);
        });
        test("haze: a 0 beyond x 7 is one, too, not two", x -> {
            rowOf(x, 0, 1, 1, 1, 1, 1, 1, 1, 1, 0);
            is(x.haze(), 1);
        });
        test("haze: both kinds together", x -> {
            rowOf(x, 0, 0, 1, 1, 1, 1, 1, 1, 0, 9, 0);
            is(x.haze(), 4);
        });
        test("haze: y is none, even if it is 0", x -> {
            rowOf(x, 0, 1);
            is(x.haze(), 0);
        });
        test("haze: of the latest row", x -> {
            rowOf(x, 0, 0, 0);
            rowOf(x, 0, 0);
            is(x.haze(), 1);
        });
        test("haze: a refused row leaves it", x -> {
            rowOf(x, 0, 0, 0);
            x.row();
            rowOf(x, 9, 0, 0, 0);
            is(x.haze(), 2);
        });
        test("haze: images do not keep it", x -> {
            x.image(0);
            rowOf(x, 0, 0, 0);
            x.back(0);
            is(x.haze(), 2);
        });
    }

    // ---- promises 16 to 20: texts ----

    private static void law() {
        lawRoom();
        lawTokens();
        lawClauses();
        lawParts();
        lawBrackets();
        lawGrammar();
        lawSums();
        lawTests();
        lawHolds();
    }

    private static void lawRoom() {
        test("law: six have room", x -> {
            for (int i = 0; i < 6; i++) {
                is(law(x, "worth 1"), i);
            }
            is(x.count(4), 6);
        });
        for (String text : new String[] {"worth 1", "worth", ""}) {
            test("law: a seventh has no room, ahead of reading [" + text + "]", x -> {
                law(x, "worth");
                allLaws(x);
                drives(x, "flag");
                tape(x, text);
                is(x.law(), -5);
                is(x.status(), -5);
                is(x.count(9), 1);
                is(x.count(10), 2);
                is(x.count(4), 6);
                is(x.count(5), 0);
                is(x.fault(), 4);
            });
        }
        test("law: a seventh leaves the six", x -> {
            allLaws(x);
            law(x, "worth 50");
            for (int i = 0; i < 6; i++) {
                x.force(i);
                is(x.asks(0, 0, 3), 10 + i);
            }
        });
        test("law: there is room again when all is gone back to", x -> {
            x.image(0);
            allLaws(x);
            x.back(0);
            is(law(x, "worth 3"), 0);
            x.force(0);
            is(x.asks(0, 0, 3), 3);
        });
        test("law: a refused one takes no number", x -> {
            law(x, "worth");
            is(law(x, "worth 1"), 0);
        });
        test("law: it is not in force by itself", x -> {
            law(x, "worth 7");
            is(x.count(11), NONE);
            is(x.asks(0, 0, 3), 1);
        });
        lawFaults("the end of an empty tape", "@");
        lawFaults("the end of one blank", " @");
        lawFaults("the end of 400 blanks", repeat(" ", "", 400) + "@");
        lawReads("400 bytes", "worth" + repeat(" ", "", 394) + "7");
        lawFaults("the end of 400 bytes", "worth 7" + repeat(" ", "", 392) + ";@");
    }

    private static void lawTokens() {
        lawReads("blanks at the beginning and the end", "   worth   1   ");
        lawReads("a word and a number without a blank", "worth1");
        lawReads("a number and a word without a blank", "worth 1if x=1");
        lawReads("signs without blanks", "worth[1+2]*3if(x<1)and not(y>2)");
        lawFaults("a word that is longer", "@worths 1");
        lawFaults("a word that is shorter", "@wort 1");
        lawFaults("two words in one", "worth @xy");
        lawFaults("a word that ends with z", "worth @xz");
        lawFaults("a word that begins with a", "worth @ax");
        lawFaults("a word cut by a blank", "@wor th 1");
        lawFaults("a number cut by a blank", "worth 1 @2");
        lawFaults("a word behind a number", "worth 1@x");
        lawFaults("a number behind a word", "worth x@1");
        lawFaults("a capital", "@Worth 1");
        lawFaults("a capital behind letters", "worth x@X");
        lawFaults("the sign ahead of a", "worth x@`");
        lawFaults("the sign behind z", "worth x@{");
        lawFaults("the sign behind 9", "worth 1@:");
        worth("the sign ahead of 0 divides", "8/2", 4);
        lawFaults("a tab, which is no blank", "worth@\t1");
        lawFaults("a line's end, which is no blank", "worth 1@\n");
        lawFaults("byte 0", "worth 1@\0");
        lawFaults("byte 255", "worth 1@\u00ff");
        lawFaults("byte 225, which is no letter", "worth x@\u00e1");
        lawFaults("the second of two signs", "worth 1+@+1");
        lawFaults("a sign that is made of two", "bars if x<@=1");
        lawReads("number 0", "worth 0");
        lawReads("number 1000", "worth 1000");
        lawFaults("number 1001", "worth @1001");
        lawReads("number 1000 behind zeros", "worth 0000000000000000000000001000");
        lawFaults("number 1001 behind zeros", "worth @0000000000000000000000001001");
        lawFaults("a number of eleven digits", "worth @10000000000");
        lawFaults("a number that would wrap around to 1", "worth @4294967297");
        lawFaults("a number that would wrap around twice", "worth @18446744073709551617");
        worth("zeros ahead of a number", "0007", 7);
    }

    private static void lawClauses() {
        String twelve = repeat("worth 1", ";", 12);
        lawReads("one clause", "bars");
        lawReads("twelve clauses", twelve);
        lawFaults("the 13th clause's first token", twelve + ";@worth 1");
        lawFaults("the 13th clause's first token, behind blanks", twelve + " ;  @worth 1");
        lawFaults("the 13th clause's first token, whatever it is", twelve + ";@;");
        lawFaults("the end instead of a 13th clause", twelve + ";@");
        lawFaults("the end instead of a second clause", "bars;@");
        lawFaults("the end behind blanks instead of a second clause", "bars;  @");
        lawFaults("a second sign between clauses", "bars;@;bars");
        lawFaults("a sign ahead of the first clause", "@;bars");
        lawFaults("a clause without a sign ahead of it", "worth 1 @worth 1");
        lawFaults("the first fault of two", "worth @; worth");
        test("twelve clauses are all heard", x -> {
            rule(x, repeat("worth 50", ";", 11) + ";worth 12");
            is(x.asks(0, 0, 3), 12);
        });
        test("a text that faults late is no law at all", x -> {
            law(x, "worth 1;worth 2;worth");
            is(x.count(4), 0);
            is(x.force(0), -2);
        });
    }

    private static void lawParts() {
        String fifty = repeat("1", "+", 50);
        worth("50 numbers", fifty, 50);
        lawFaults("the 51st number", "worth " + fifty + "+@1");
        lawReads("50 words", "worth " + repeat("x", "+", 50));
        lawFaults("the 51st word", "worth " + repeat("x", "+", 50) + "+@y");
        lawFaults("the 51st of numbers and words", "worth " + repeat("x+1", "+", 25) + "+@x");
        lawReads("50 parts of two clauses", "worth " + repeat("1", "+", 25) + ";cools " + repeat("1", "+", 25));
        lawFaults("the 51st part of two clauses", "worth " + fifty + ";cools @1");
        lawReads("a clause without parts behind 50", "worth " + fifty + ";bars");
        lawReads("50 parts of sum and test", "worth " + repeat("1", "+", 48) + " if 1 = 1");
        lawFaults("the 51st part in a test", "worth " + repeat("1", "+", 49) + " if 1 = @1");
        lawFaults("the 51st part within a bracket", "worth " + fifty + "+[@1]");
        lawReads("brackets, which are no parts", "worth [" + repeat("[1]", "+", 50) + "]");
        lawFaults("the end where a 51st part would stand", "worth " + fifty + "+@");
        lawFaults("a number beyond 1000 as the 50th part", "worth " + repeat("1", "+", 49) + "+@1001");
        test("law: 50 parts in each of many texts", x -> {
            x.image(0);
            for (int i = 0; i < 20; i++) {
                is(law(x, "worth " + i + "+" + repeat("1", "+", 49)), 0);
                x.force(0);
                is(x.asks(0, 0, 3), 49 + i);
                x.back(0);
            }
        });
        test("law: 51 parts leave the next text its 50", x -> {
            is(law(x, "worth " + fifty + "+1"), -6);
            is(law(x, "worth " + fifty), 0);
        });
    }

    private static void lawBrackets() {
        lawReads("eight brackets of sums", "worth " + repeat("[", "", 8) + "1" + repeat("]", "", 8));
        lawFaults("the ninth bracket of sums", "worth " + repeat("[", "", 8) + "@[1" + repeat("]", "", 9));
        lawReads("eight brackets of tests", "bars if " + repeat("(", "", 8) + "1=1" + repeat(")", "", 8));
        lawFaults("the ninth bracket of tests", "bars if " + repeat("(", "", 8) + "@(1=1" + repeat(")", "", 9));
        lawReads("eight brackets of both kinds", "bars if ((((([[[1]]]=1)))))");
        lawFaults("the ninth bracket of both kinds", "bars if ((((([[[@[1]]]]=1)))))");
        lawFaults("the ninth bracket behind another sum", "bars if ((((([[[1]]]=[[[@[1]]]])))))");
        lawFaults("the ninth bracket, a sum's behind eight of tests", "bars if ((((((((@[1]=1))))))))");
        lawReads("more than eight brackets one behind another", "worth " + repeat("[1]", "+", 20));
        lawReads("eight brackets twice", "bars if " + repeat(repeat("(", "", 8) + "1=1" + repeat(")", "", 8), " or ", 2));
        lawReads("eight brackets in each of two clauses", repeat("worth " + repeat("[", "", 8) + "1" + repeat("]", "", 8), ";", 2));
        lawReads("more than eight times not", "bars if " + repeat("not", " ", 20) + " 1=1");
        lawFaults("an empty bracket of a sum", "worth [@]");
        lawFaults("an empty bracket of a test", "bars if (@)");
        lawFaults("a bracket that is not closed", "worth [1@");
        lawFaults("a bracket of a test that is not closed", "bars if (1=1@");
        lawFaults("a bracket that was not opened", "worth 1@]");
        lawFaults("a bracket of a test that was not opened", "bars if 1=1@)");
        lawFaults("the other kind's end of a bracket", "worth [1@)");
        lawFaults("a bracket of tests in a sum", "worth @(1)");
        lawFaults("a bracket of sums around a test", "bars if [1@=1]");
        lawFaults("a bracket of tests around a sum", "bars if (1@)=1");
    }

    private static void lawGrammar() {
        lawFaults("the end behind worth", "worth@");
        lawFaults("the end behind blanks, at the text's length", "worth  @");
        lawFaults("the end behind a sign", "worth 1 *@");
        lawFaults("the end behind if", "worth 1 if@");
        lawFaults("the end behind a sum in a test", "bars if x@");
        lawFaults("the end behind a relation", "bars if x <@");
        lawFaults("the end behind and", "bars if x = 1 and@");
        lawFaults("the end behind or", "bars if x = 1 or@");
        lawFaults("the end behind not", "bars if not@");
        lawFaults("a sum behind bars", "bars @1");
        lawFaults("an if without a clause", "@if 1=1");
        lawFaults("a second if", "bars if 1=1 @if 1=1");
        lawFaults("a second relation", "bars if 1<2@<3");
        lawFaults("a relation in a sum", "worth 1@<2");
        lawFaults("a sign ahead of a number", "worth @-1");
        lawFaults("a word that leads something in", "worth @heats");
        lawFaults("if instead of a sum", "heats @if 1=1");
        for (String word : new String[] {"x", "y", "hour", "cloud", "layer", "shade", "day", "mood"}) {
            lawReads("the word " + word, "worth " + word);
        }
        for (String word : new String[] {"clouds", "flags", "last", "done", "run", "left 0 0", "top 0 0", "each", "times"}) {
            lawFaults("the word of drives " + word, "worth @" + word);
        }
        lawFaults("a clause of drives", "@flag 0 to 0 at 0");
        for (String kind : new String[] {"heats 1", "cools 1", "worth 1", "bars"}) {
            lawReads("a clause of " + kind, kind);
            lawReads("a clause of " + kind + " with an if", kind + " if 1=1");
        }
    }

    private static void lawSums() {
        String billion = "1000*1000*1000";
        worth("1,000,000,000 is not beyond", "[" + billion + "]/1000/1000/100", 10);
        worth("one more is beyond", "[" + billion + "+1]/1000/1000/100", 1);
        worth("less 1,000,000,000 is not beyond", "[0-" + billion + "]/1000/1000/100+20", 10);
        worth("one less is beyond", "[0-" + billion + "-1]/1000/1000/100+20", 1);
        worth("a sum that comes back is broken, too", billion + "+1-1", 1);
        worth("a sum that only comes near is not", billion + "-1+1-" + billion + "+8", 8);
        worth("a product beyond it that comes back is broken, too", billion + "*2/1000/1000/1000", 1);
        worth("a product that would wrap around to 0", "[" + repeat("1000", "*", 30) + "]*0+5", 1);
        worth("a product of both that are below 0", "[0-1000*1000]*[0-1000]/1000/1000/100", 10);
        worth("divided by 0", "5/0", 1);
        worth("0 divided by 0", "0/0", 1);
        worth("what is left by 0", "5%0", 1);
        worth("divided by what is 0", "5/[x-3]+9", 1);
        worth("0 divided", "0/5+9", 9);
        worth("cut towards 0", "7/2", 3);
        worth("cut towards 0, below it", "[0-7]/2+10", 7);
        worth("cut towards 0, by one below it", "7/[0-2]+10", 7);
        worth("cut towards 0, of both below it", "[0-7]/[0-2]+10", 13);
        worth("what is left", "7%4", 3);
        worth("what is left below 0", "[0-7]%4+10", 7);
        worth("what is left by one below 0", "7%[0-4]+10", 13);
        worth("what is left of both below 0", "[0-7]%[0-4]+10", 7);
        worth("what is left of none", "8%4+9", 9);
        worth("products ahead of sums", "2+3*4-10/5", 12);
        worth("sums from the left", "20-5-3", 12);
        worth("products from the left", "90/3/5%4*9", 18);
        worth("brackets ahead of all", "[2+3]*[4-2]", 10);
        worth("99 is told", "99", 99);
        worth("100 is told as 99", "100", 99);
        worth("0 is told", "0", 0);
        worth("less than 0 is told as 0", "0-1", 0);
        worth("far beyond is told as 99", billion, 99);
        worth("far below is told as 0", "0-" + billion, 0);
    }

    private static void lawTests() {
        so("3 is not below 3", "x < 3", false);
        so("3 is below 4", "x < 4", true);
        so("3 is not above 3", "x > 3", false);
        so("3 is above 2", "x > 2", true);
        so("3 is 3", "x = 3", true);
        so("3 is not 4", "x = 4", false);
        so("not below", "not x < 3", true);
        so("not above", "not x > 3", true);
        so("not the same", "not x = 4", true);
        so("not of one that is below", "not x < 4", false);
        so("and before or", "1=1 or 1=1 and 1=2", true);
        so("and before or, the other way", "1=2 and 1=1 or 1=1", true);
        so("brackets ahead of and", "(1=1 or 1=1) and 1=2", false);
        so("not of the next alone", "not 1=2 and 1=2", false);
        so("not of a bracket", "not (1=2 and 1=2)", true);
        so("not twice", "not not 1=1", true);
        so("not of a bracket with not", "not (not 1=1)", true);
        so("not of a bracket with not that is so", "not (not 1=2)", false);
        so("or of none that is so", "1=2 or 1=2 or 1=2", false);
        so("or of the last that is so", "1=2 or 1=2 or 1=1", true);
        so("and of all that are so", "1=1 and 1=1 and 1=1", true);
        so("and of the last that is not so", "1=1 and 1=1 and 1=2", false);
        so("a test of a broken sum", "1/0=1", false);
        so("not of a broken sum", "not 1/0=1", false);
        so("a broken sum behind the relation", "1=1/0", false);
        so("or asks not what stands behind, if it can't matter", "1=1 or 1/0=1", true);
        so("or asks what stands behind, if it can matter", "1=2 or 1/0=1", false);
        so("or is broken by what stands ahead", "1/0=1 or 1=1", false);
        so("and asks not what stands behind, if it can't matter", "not (1=2 and 1/0=1)", true);
        so("and asks what stands behind, if it can matter", "not (1=1 and 1/0=1)", false);
        so("and is broken by what stands ahead", "not (1/0=1 and 1=2)", false);
        so("or behind an and that was not asked to its end", "1=2 and 1/0=1 or 1=1", true);
        so("or behind an and that is broken", "1=1 and 1/0=1 or 1=1", false);
        so("an and behind an or that is so", "1=1 or 1=1 and 1/0=1", true);
        so("a third of or that can't matter", "1=2 or 1=1 or 1/0=1", true);
        so("a third of and that can't matter", "not (1=1 and 1=2 and 1/0=1)", true);
        so("a bracket that can't matter", "1=1 or (1/0=1 and 1=1)", true);
        so("1,000,000,000 in a test", "1000*1000*1000=1000*1000*1000", true);
        so("beyond it in a test", "not 1000*1000*1000+1=1", false);
    }

    private static void lawHolds() {
        test("the last clause of a kind that holds", x -> {
            rule(x, "worth 2; worth 3; heats 9");
            is(x.asks(0, 0, 3), 3);
        });
        test("one whose if is not so does not hold", x -> {
            rule(x, "worth 2; worth 3 if 1=2");
            is(x.asks(0, 0, 3), 2);
        });
        test("one whose if is broken does not hold", x -> {
            rule(x, "worth 2; worth 3 if 1/0=1");
            is(x.asks(0, 0, 3), 2);
        });
        test("one whose sum is broken does not hold", x -> {
            rule(x, "worth 2; worth 1/0 if 1=1");
            is(x.asks(0, 0, 3), 2);
        });
        for (String law : new String[] {"bars if 1=2", "heats 1/0; cools 1/0; worth 1/0", "heats 9 if 1=2; cools 9 if 1=2; worth 9 if 1=2"}) {
            test("without one that holds: " + law, x -> {
                rule(x, law);
                same(row(x.asks(0, 0, 1), x.asks(0, 0, 2), x.asks(0, 0, 3)), "5 3 1");
            });
        }
        test("each kind is heard for itself", x -> {
            rule(x, "heats 11; cools 22; worth 33");
            same(row(x.asks(0, 0, 1), x.asks(0, 0, 2), x.asks(0, 0, 3)), "11 22 33");
        });
        for (String[] kind : new String[][] {{"heats", "1"}, {"cools", "2"}, {"worth", "3"}}) {
            int what = Integer.parseInt(kind[1]);
            for (int told : new int[] {0, 99}) {
                test(kind[0] + " tells " + told, x -> {
                    rule(x, kind[0] + " " + told);
                    is(x.asks(0, 0, what), told);
                });
            }
            test(kind[0] + " tells 99 at most", x -> {
                rule(x, kind[0] + " 100");
                is(x.asks(0, 0, what), 99);
            });
            test(kind[0] + " tells 0 at least", x -> {
                rule(x, kind[0] + " 0-1");
                is(x.asks(0, 0, what), 0);
            });
        }
        test("heats and cools are asked of no cloud, of a shade", x -> {
            fiveClouds(x);
            rule(x, "heats 10*[cloud+2]+layer+2; cools 10*[cloud+3]+shade; worth 10*[cloud+4]+3*layer+shade+9");
            same(row(x.asks(0, 0, 1), x.asks(0, 0, 2), x.asks(0, 0, 3)), "11 20 35");
            same(row(x.asks(27, 0, 1), x.asks(27, 0, 2), x.asks(27, 0, 3)), "11 25 35");
        });
        test("heats is asked of the shade, too", x -> {
            fiveClouds(x);
            rule(x, "heats 10+shade");
            is(x.asks(26, 0, 1), 10);
            is(x.asks(27, 0, 1), 15);
        });
        test("bars is asked of the corner, the cloud and its layer, of no shade", x -> {
            x.cloud(1, 1, 0, 15, -8);
            x.cloud(1, 1, 2, 15, -8);
            rule(x, "bars if x=15 and y=0-8 and cloud=1 and layer=2 and shade=0-1 and hour=11");
            same(row(x.at(1, 11, 2), x.at(1, 10, 2), x.at(0, 11, 2)), "1 0 0");
        });
        test("day and mood are the terms", x -> {
            x.terms(0, 99);
            x.terms(2, 9);
            rule(x, "worth day-mood");
            is(x.asks(0, 0, 3), 90);
        });
        test("hour 0 and hour 11, x and y 0 and 7", x -> {
            rule(x, "worth 1+hour; worth 50+x if hour=11 and y=7");
            same(row(x.asks(0, 0, 3), x.asks(63, 11, 3), x.asks(56, 11, 3), x.asks(7, 11, 3)), "1 57 50 12");
        });
    }

    private static void drives() {
        drivesGrammar();
        drivesNumbers();
        drivesRuns();
        drivesWords();
        drivesRoom();
    }

    private static void drivesGrammar() {
        drivesFault("the end of an empty tape", "@");
        drivesFault("the end of blanks alone", "   @");
        drivesFault("a clause of laws", "@worth 1");
        drivesFault("the end behind flag", "flag@");
        drivesFault("the end behind the cloud", "flag 0@");
        drivesFault("the end behind to", "flag 0 to@");
        drivesFault("the end behind the direction", "flag 0 to 0@");
        drivesFault("the end behind at", "flag 0 to 0 at@");
        drivesFault("the end behind each", "flag 0 to 0 at 0 each@");
        drivesFault("the end behind times", "flag 0 to 0 at 0 times@");
        drivesFault("the end behind if", "flag 0 to 0 at 0 if@");
        drivesFault("the end instead of a second clause", "flag 0 to 0 at 0; @");
        drivesFault("times ahead of each", "flag 0 to 0 at 0 times 2 @each 1");
        drivesFault("if ahead of times", "flag 0 to 0 at 0 if 1=1 @times 2");
        drivesFault("a second each", "flag 0 to 0 at 0 each 1 @each 1");
        drivesFault("a fault behind a clause that could be run", "flag 0 to 0 at 0; flag 0 @at 1");
        drivesFault("a fault behind a clause that can't be", "flag 9 to 9 at 9; flag 0 @at 1");
        for (String word : new String[] {"x", "y", "hour", "cloud", "layer", "shade", "mood", "each"}) {
            drivesFault("the word of laws or none " + word, "flag 0 to 0 at @" + word);
        }
        for (String word : new String[] {"clouds", "flags", "done", "run", "day", "0-1-last", "left 0 0", "top 0 0"}) {
            drivesTell("the word " + word, "flag 0 to 0 at " + word, 1);
        }
        String twelve = repeat("flag 0 to 0 at done", ";", 11) + ";flag 0 to 0 at 0 if 1=2";
        drivesTell("twelve clauses", twelve, 11);
        drivesFault("the 13th clause's first token", twelve + ";@flag 0 to 0 at 0");
        drivesFault("the end instead of a 13th clause", twelve + ";@");
        String fifty = repeat("0", "+", 48);
        drivesTell("50 parts", "flag 0 to 0 at " + fifty, 1);
        drivesFault("the 51st part", "flag 0 to 0 at " + fifty + "+@1");
        drivesTell("50 parts, left and top count as one each", "flag 0 to 0 at " + repeat("top4 0-left4 1", "+", 24), 1);
        drivesFault("the 51st part, a left", "flag 0 to 0 at " + fifty + "+@left 0 0");
        drivesTell("50 parts, times does not count", "flag 0 to 0 at run+" + repeat("0", "+", 47) + " times 11", 11);
        drivesTell("eight brackets", "flag 0 to 0 at [[[[[[[[5]]]]]]]]", 1);
        drivesFault("the ninth bracket", "flag 0 to 0 at [[[[[[[[@[5]]]]]]]]]");
    }

    private static void drivesNumbers() {
        drivesTell("times 1", "flag 0 to 0 at 0 times 1", 1);
        drivesTell("once without times", "flag 0 to 0 at 0", 1);
        drivesTell("times 20", "flag 0 to 0 at 0 times 20 if done = 0", 1);
        drivesFault("times 0", "flag 0 to 0 at 0 times @0");
        drivesFault("times 21", "flag 0 to 0 at 0 times @21");
        drivesFault("times of a sum", "flag 0 to 0 at 0 times 1 @+ 1");
        drivesFault("times of a word", "flag 0 to 0 at 0 times @run");
        drivesFault("times of a bracket", "flag 0 to 0 at 0 times @[1]");
        for (String word : new String[] {"left", "top"}) {
            drivesTell(word + " of cloud 4 in hour 11", "flag 0 to 0 at 0 if " + word + " 4 11 = 100", 1);
            drivesTell(word + " of cloud 0 in hour 0", "flag 0 to 0 at 0 if " + word + " 0 0 = 3", 1);
            drivesFault(word + " of cloud 5", "flag 0 to 0 at " + word + " @5 0");
            drivesFault(word + " of hour 12", "flag 0 to 0 at " + word + " 0 @12");
            drivesFault(word + " without a cloud", "flag 0 to 0 at " + word + "@");
            drivesFault(word + " without an hour", "flag 0 to 0 at " + word + " 0@");
            drivesFault(word + " of a word", "flag 0 to 0 at " + word + " @run 0");
            drivesFault(word + " of an hour in brackets", "flag 0 to 0 at " + word + " 0 @[1]");
        }
        for (int hour : new int[] {0, 10}) {
            drivesTell("hour " + hour, "flag 0 to 0 at " + hour, 1);
        }
        drivesStop("hour 11", "flag 0 to 0 at 11", 0);
        drivesStop("hour -1", "flag 0 to 0 at 0-1", 0);
        for (int direction : new int[] {0, 3}) {
            drivesTell("direction " + direction, "flag 0 to " + direction + " at 0", 1);
        }
        drivesStop("direction 4", "flag 0 to 4 at 0", 0);
        drivesStop("direction -1", "flag 0 to 0-1 at 0", 0);
        drivesStop("cloud 1 of one", "flag 1 to 0 at 0", 0);
        drivesStop("cloud -1", "flag 0-1 to 0 at 0", 0);
        drivesStop("cloud 5", "flag 5 to 0 at 0", 0);
        drivesStop("a broken cloud", "flag 1/0 to 0 at 0", 0);
        drivesStop("a broken direction", "flag 0 to 1/0 at 0", 0);
        drivesStop("a broken hour", "flag 0 to 0 at 1/0", 0);
        drivesStop("a broken each, even if it is not needed", "flag 0 to 0 at 0 each 1/0", 0);
        drivesStop("one in that hour", "flag 0 to 0 at 10", 0);
        drivesStop("one in that hour by the same text", "flag 0 to 0 at 0; flag 0 to 0 at 0", 1);
        drivesStop("the twelfth clause", repeat("flag 0 to 0 at done", ";", 10) + ";flag 0 to 0 at 0 if 1=2;flag 0 to 0 at 10", 11);
        drivesTell("each 1000 is not asked for once", "flag 0 to 0 at 0 each 1000 times 1", 1);
        drivesStop("hours far beyond", "flag 0 to 0 at 0 each 1000*1000*1000 times 20", 0);
        drivesStop("hours far below", "flag 0 to 0 at 0 each 0-1000*1000*1000 times 20", 0);
    }

    private static void drivesRuns() {
        drivesTell("each 1 from hour 0 eleven times", "flag 0 to 0 at 0 each 1 times 11", 11);
        drivesStop("each 1 from hour 0 up to one that is told", "flag 0 to 0 at 0 each 1 times 11", 0);
        drivesTell("each below 0", "flag 0 to 0 at 10 each 0-5 times 3", 3);
        drivesStop("each 0 twice", "flag 0 to 0 at 0 times 2", 0);
        drivesTell("none if it is not so", "flag 0 to 0 at 0 if 1=2", 0);
        drivesTell("none if it is broken", "flag 0 to 0 at 0 if 1/0=1", 0);
        drivesTell("one that is not run needs no sums", "flag 9 to 1/0 at 99 each 1/0 times 20 if 1=2", 0);
        drivesTell("the if is asked each time", "flag 0 to 0 at run times 20 if run < 7", 7);
        drivesTell("each is by how often it was run", "flag 0 to 0 at 2 each 3 times 3 if left 0 11 = 3", 3);
        test("drives: times are counted, even if it is not run then", x -> {
            x.cloud(1, 1, 0, 3, 3);
            is(drives(x, "flag 0 to 1 at 0 each 1 times 3 if left 0 11 < 5"), 2);
            is(x.at(0, 11, 0), 5);
        });
        test("drives: flags told stand for the next clause", x -> {
            x.cloud(1, 1, 0, 3, 3);
            is(drives(x, "flag 0 to 1 at 0; flag 0 to left 0 11 - 3 at left 0 1"), 2);
            is(x.undo(), 4);
            is(x.undo(), 0);
        });
        test("drives: none told leaves the flags", x -> {
            x.cloud(1, 1, 0, 3, 3);
            x.flag(3, 0, 1);
            is(drives(x, "flag 0 to 0 at 0 if 1=2"), 0);
            is(x.count(1), 1);
            is(x.undo(), 3);
        });
        test("drives: of no cloud", x -> {
            is(drives(x, "flag 0 to 0 at 0"), -3);
            is(drives(x, "flag 0 to 0 at 0 if clouds > 0"), 0);
        });
    }

    private static void drivesWords() {
        drivesTell("clouds", "flag 0 to 0 at 0 if clouds = 1", 1);
        drivesTell("flags is 0 at first", "flag 0 to 0 at 0 if flags = 0", 1);
        drivesTell("done is 0 at first", "flag 0 to 0 at 0 if done = 0", 1);
        drivesTell("run is 0 at first", "flag 0 to 0 at 0 if run = 0", 1);
        drivesTell("last is -1 at first", "flag 0 to 0 at 0 if last = 0-1", 1);
        drivesTell("day", "flag 0 to 0 at 0 if day = 0", 1);
        drivesTell("last is the hour told last", "flag 0 to 0 at 9; flag 0 to 0 at 2; flag 0 to 0 at 0 if last = 2", 3);
        drivesTell("last is left by a clause that is not run", "flag 0 to 0 at 9; flag 0 to 0 at 2 if 1=2; flag 0 to 0 at 0 if last = 9", 2);
        drivesTell("last within one clause", "flag 0 to 0 at last + 1 times 11", 11);
        drivesTell("done goes on over clauses", "flag 0 to 0 at 0; flag 0 to 0 at 1; flag 0 to 0 at 2 if done = 2", 3);
        drivesTell("run begins anew in each clause", "flag 0 to 0 at run times 3; flag 0 to 0 at 3 + run times 3 if run < 1", 4);
        test("drives: flags are all that are told, done and last of the text alone", x -> {
            fiveClouds(x);
            x.flag(7, 0, 0);
            x.flag(8, 0, 0);
            is(drives(x, "flag 1 to 0 at 0 if flags = 2 and done = 0 and last = 0-1"), 1);
            is(drives(x, "flag 1 to 0 at 1 if flags = 3 and done = 0 and last = 0-1 and clouds = 5"), 1);
        });
        test("drives: left and top at the edges, and gone", x -> {
            x.cloud(1, 1, 0, -8, -8);
            x.cloud(1, 1, 1, 14, 14);
            x.wind(1, 1, 1);
            is(drives(x, "flag 0 to 0 at 0 if left 0 0 = 0-8 and top 0 0 = 0-8 and left 1 1 = 15 and top 1 1 = 15"), 1);
            is(drives(x, "flag 0 to 0 at 1 if left 1 2 = 100 and top 1 2 = 100 and left 1 11 = 100"), 1);
            is(drives(x, "flag 0 to 0 at 2 if left 0 0 = 0-8 and left 0 1 = 100 and top 0 1 = 100"), 1);
        });
        test("drives: left and top of no such cloud are 100", x -> {
            x.cloud(1, 1, 0, 3, 3);
            is(drives(x, "flag 0 to 0 at 0 if left 1 0 = 100 and top 1 0 = 100 and left 4 11 = 100 and top 4 11 = 100"), 1);
        });
        test("drives: day is the term", x -> {
            x.cloud(1, 1, 0, 3, 3);
            x.terms(0, 10);
            is(drives(x, "flag 0 to 0 at day"), 1);
            is(x.undo(), 10);
        });
    }

    private static void drivesRoom() {
        Body all = x -> {
            fiveClouds(x);
            is(drives(x, "flag 0 to 0 at run times 11; flag 1 to 0 at run times 11; flag 2 to 0 at run times 2"), 24);
        };
        test("drives: 24 flags have room", all);
        test("drives: a 25th has no room", x -> {
            all.run(x);
            is(drives(x, "flag 3 to 0 at 0"), -5);
            is(x.stopped(), 0);
            is(x.status(), -5);
            is(x.count(9), 1);
            is(x.count(1), 24);
            is(x.count(5), 0);
            is(x.fault(), NONE);
        });
        test("drives: a 25th by the same text leaves none of it", x -> {
            fiveClouds(x);
            is(drives(x, "flag 0 to 0 at run times 11; flag 1 to 0 at run times 11; flag 2 to 0 at run times 3"), -5);
            is(x.stopped(), 2);
            is(x.count(1), 0);
            is(x.undo(), -3);
        });
        test("drives: one in that hour comes ahead of no room", x -> {
            all.run(x);
            is(drives(x, "flag 2 to 0 at 1"), -3);
            is(x.status(), -3);
        });
        test("drives: no such cloud comes ahead of no room", x -> {
            all.run(x);
            x.image(0);
            is(drives(x, "flag 5 to 0 at 1"), -3);
        });
        test("drives: a broken sum comes ahead of no room", x -> {
            all.run(x);
            is(drives(x, "flag 3 to 0 at 1/0"), -3);
        });
        test("drives: a text that can't be read, without room", x -> {
            all.run(x);
            is(drives(x, "flag 3 to 0 at"), -6);
        });
        test("drives: no room in a clause ahead of one that can't be", x -> {
            all.run(x);
            is(drives(x, "flag 3 to 0 at 0; flag 9 to 0 at 0"), -5);
            is(x.stopped(), 0);
        });
        test("drives: one that can't be in a clause ahead of no room", x -> {
            all.run(x);
            is(drives(x, "flag 9 to 0 at 0; flag 3 to 0 at 0"), -3);
            is(x.stopped(), 0);
        });
        test("drives: what is not run needs no room", x -> {
            all.run(x);
            is(drives(x, "flag 3 to 0 at 0 if flags < 24"), 0);
        });
    }

    private static void fault() {
        test("fault: NONE ahead of any text", x -> is(x.fault(), NONE));
        test("fault: 0, the first place", x -> {
            law(x, "x");
            is(x.fault(), 0);
        });
        test("fault: 400, the last place", x -> {
            law(x, "worth" + repeat(" ", "", 395));
            is(x.fault(), 400);
        });
        test("fault: NONE again by a law that was read", x -> {
            law(x, "x");
            law(x, "bars");
            is(x.fault(), NONE);
        });
        test("fault: NONE again by drives that were run", x -> {
            law(x, "x");
            x.cloud(1, 1, 0, 3, 3);
            drives(x, "flag 0 to 0 at 0");
            is(x.fault(), NONE);
        });
        test("fault: NONE again by drives that were read, but can't be", x -> {
            law(x, "x");
            is(drives(x, "flag 0 to 0 at 0"), -3);
            is(x.fault(), NONE);
        });
        test("fault: of the latest of both kinds", x -> {
            law(x, "bars x");
            is(x.fault(), 5);
            drives(x, "flag to");
            is(x.fault(), 5);
            drives(x, "flag 0 at");
            is(x.fault(), 7);
            law(x, "bars if");
            is(x.fault(), 7);
        });
        test("fault: a law without room does not read, and leaves it", x -> {
            allLaws(x);
            drives(x, "flag 0");
            law(x, "x");
            is(x.fault(), 6);
            drives(x, "flag 0 to 0 at 0");
            law(x, "x");
            is(x.fault(), NONE);
        });
        test("fault: rows leave it", x -> {
            law(x, "bars x");
            rowOf(x, 9);
            rowOf(x, 0, 1);
            is(x.fault(), 5);
        });
        test("fault: images do not keep it", x -> {
            x.image(0);
            law(x, "bars x");
            x.back(0);
            is(x.fault(), 5);
        });
    }

    private static void stopped() {
        test("stopped: NONE ahead of any", x -> is(x.stopped(), NONE));
        test("stopped: clause 0", x -> {
            drives(x, "flag 0 to 0 at 0");
            is(x.stopped(), 0);
        });
        test("stopped: clause 11", x -> {
            x.cloud(1, 1, 0, 3, 3);
            drives(x, repeat("flag 0 to 0 at done", ";", 11) + ";flag 0 to 0 at 0");
            is(x.stopped(), 11);
        });
        test("stopped: the first of two", x -> {
            drives(x, "flag 0 to 0 at 0 if 1=2; flag 0 to 0 at 0; flag 0 to 0 at 0");
            is(x.stopped(), 1);
        });
        test("stopped: NONE again by drives that were run", x -> {
            drives(x, "flag 0 to 0 at 0");
            drives(x, "flag 0 to 0 at 0 if 1=2");
            is(x.stopped(), NONE);
        });
        test("stopped: NONE again by drives that can't be read", x -> {
            drives(x, "flag 0 to 0 at 0");
            drives(x, "flag");
            is(x.stopped(), NONE);
        });
        test("stopped: laws leave it", x -> {
            drives(x, "flag 0 to 0 at 0");
            law(x, "bars");
            law(x, "flag");
            is(x.stopped(), 0);
        });
        test("stopped: images do not keep it", x -> {
            x.image(0);
            drives(x, "flag 0 to 0 at 0");
            x.back(0);
            is(x.stopped(), 0);
        });
    }

    private static void force() {
        numbers("force: law of six", NONE, 5, -2, x -> {
            allLaws(x);
            x.force(3);
        }, (x, n) -> x.force(n));
        numbers("force: law of none", NONE, NONE, -2, NEW, (x, n) -> x.force(n));
        numbers("force: law of one", NONE, 0, -2, x -> law(x, "worth 5"), (x, n) -> x.force(n));
        test("force tells which was", x -> {
            allLaws(x);
            same(row(x.force(5), x.force(0), x.force(0), x.force(NONE), x.force(NONE)), "-1 5 0 0 -1");
        });
        test("force of NONE: no clause", x -> {
            rule(x, "heats 9; cools 9; worth 9; bars");
            x.cloud(1, 1, 0, 3, 3);
            x.force(NONE);
            same(row(x.asks(0, 0, 1), x.asks(0, 0, 2), x.asks(0, 0, 3), x.at(0, 0, 2)), "5 3 1 0");
        });
        test("force of each of six", x -> {
            allLaws(x);
            for (int i = 0; i < 6; i++) {
                x.force(i);
                is(x.asks(0, 0, 3), 10 + i);
                is(x.count(11), i);
            }
        });
        test("a refused force leaves the law", x -> {
            rule(x, "worth 9");
            x.force(1);
            is(x.asks(0, 0, 3), 9);
            is(x.count(11), 0);
        });
    }

    // ---- promises 21 to 27: what is asked of all as told ----

    private static void asks() {
        asked("asks: field", 0, 63, NONE, NEW, (x, n) -> x.asks(n, 0, 0));
        asked("asks: hour", 0, 11, NONE, NEW, (x, n) -> x.asks(0, n, 1));
        asked("asks: what", 0, 3, NONE, NEW, (x, n) -> x.asks(0, 0, n));
        test("asks: no cloud shades", x -> is(x.asks(0, 0, 0), 0));
        test("asks: five clouds shade", x -> {
            fiveClouds(x);
            is(x.asks(27, 11, 0), 5);
            is(x.asks(28, 11, 0), 0);
        });
        test("asks: 5, 3 and 1 without a law, whatever the shade", x -> {
            x.cloud(1, 1, 0, 3, 3);
            same(row(x.asks(27, 0, 1), x.asks(27, 0, 2), x.asks(27, 0, 3)), "5 3 1");
            same(row(x.asks(26, 0, 1), x.asks(26, 0, 2), x.asks(26, 0, 3)), "5 3 1");
        });
        test("asks: each is asked of its own field and hour", x -> {
            rule(x, "heats 10*x+hour; cools 10*y+hour; worth 10*x+y");
            same(row(x.asks(11, 1, 1), x.asks(53, 2, 2), x.asks(35, 3, 3), x.asks(63, 4, 1)), "31 62 34 74");
        });
        undisturbed("asks", (x, n) -> x.asks(36, 3, 2));
        shadow("of 1 by 1", 1, 1, 3, 3, 27);
        shadow("of 3 by 1", 3, 1, 3, 3, 27, 28, 29);
        shadow("of 1 by 3", 1, 3, 3, 3, 27, 35, 43);
        shadow("of 3 by 3 in the first corner", 3, 3, 0, 0, 0, 1, 2, 8, 9, 10, 16, 17, 18);
        shadow("with its last column on the plain", 3, 1, -2, 0, 0);
        shadow("just left of the plain", 3, 1, -3, 0);
        shadow("with its last line on the plain", 1, 3, 0, -2, 0);
        shadow("just above the plain", 1, 3, 0, -3);
        shadow("with its first column on the plain", 3, 1, 7, 0, 7);
        shadow("just right of the plain", 3, 1, 8, 0);
        shadow("with its first line on the plain", 1, 3, 0, 7, 56);
        shadow("just below the plain", 1, 3, 0, 8);
        shadow("over the last corner", 3, 3, 7, 7, 63);
        shadow("far off at the least corner", 3, 3, -8, -8);
        shadow("far off at the greatest corner", 3, 3, 15, 15);
    }

    /** A shadow has those fields and no other. */
    private static void shadow(String title, int wide, int tall, int cornerX, int cornerY, int... fields) {
        test("asks: the shadow " + title, x -> {
            x.cloud(wide, tall, 0, cornerX, cornerY);
            StringBuilder got = new StringBuilder();
            StringBuilder want = new StringBuilder();
            for (int field = 0; field < 64; field++) {
                if (x.asks(field, 0, 0) != 0) {
                    got.append(field).append(' ');
                }
            }
            for (int field : fields) {
                want.append(field).append(' ');
            }
            same(got.toString(), want.toString());
            is(x.dark(0), fields.length);
        });
    }

    private static void at() {
        asked("at: cloud of one", 0, 0, NOTHING, ONE_CLOUD, (x, n) -> x.at(n, 0, 0));
        asked("at: cloud of five", 0, 4, NOTHING, BoundaryTest::fiveClouds, (x, n) -> x.at(n, 0, 0));
        asked("at: hour", 0, 11, NOTHING, ONE_CLOUD, (x, n) -> x.at(0, n, 0));
        asked("at: what", 0, 2, NOTHING, ONE_CLOUD, (x, n) -> x.at(0, 0, n));
        int[][] edges = {{-8, 3, 3, -1, 0}, {15, 3, 1, 1, 0}, {3, -8, 0, 0, -1}, {3, 15, 2, 0, 1}};
        for (int[] e : edges) {
            String edge = e[0] + ", " + e[1];
            test("at: the edge " + edge + " is not gone", x -> {
                x.cloud(1, 1, 0, e[0], e[1]);
                same(row(x.at(0, 11, 0), x.at(0, 11, 1), x.at(0, 11, 2)), row(e[0], e[1], 0));
            });
            test("at: up to the edge " + edge + " by the wind", x -> {
                x.cloud(1, 1, 0, e[0] - e[3], e[1] - e[4]);
                x.wind(0, e[3], e[4]);
                same(row(x.at(0, 1, 0), x.at(0, 1, 1)), row(e[0], e[1]));
                same(row(x.at(0, 2, 0), x.at(0, 2, 1), x.at(0, 2, 2)), "-1000 -1000 -1000");
            });
            test("at: beyond the edge " + edge + " by a flag, for good", x -> {
                x.cloud(1, 1, 0, e[0], e[1]);
                x.flag(0, 0, e[2]);
                x.flag(1, 0, (e[2] + 2) % 4);
                for (int hour : new int[] {1, 2, 11}) {
                    same(row(x.at(0, hour, 0), x.at(0, hour, 1), x.at(0, hour, 2)), "-1000 -1000 -1000");
                }
                is(x.at(0, 0, 0), e[0]);
            });
            test("at: a flag against the wind keeps a cloud at " + edge, x -> {
                x.cloud(1, 1, 0, e[0], e[1]);
                x.wind(0, e[3], e[4]);
                x.flag(0, 0, (e[2] + 2) % 4);
                same(row(x.at(0, 1, 0), x.at(0, 1, 1)), row(e[0], e[1]));
                is(x.at(0, 2, 0), NOTHING);
            });
            test("at: two steps at once beyond the edge " + edge, x -> {
                x.cloud(1, 1, 0, e[0], e[1]);
                x.wind(0, e[3], e[4]);
                x.flag(0, 0, e[2]);
                same(row(x.at(0, 1, 0), x.at(0, 1, 1), x.at(0, 11, 0)), "-1000 -1000 -1000");
            });
        }
        test("at: in hour 11 by flags of hours 0 to 10", x -> {
            x.cloud(1, 1, 0, 3, 3);
            x.flag(0, 0, 1);
            x.flag(10, 0, 2);
            same(row(x.at(0, 0, 0), x.at(0, 1, 0), x.at(0, 11, 0)), "3 4 4");
            same(row(x.at(0, 10, 1), x.at(0, 11, 1)), "3 4");
        });
        test("at: what 2 of a free cloud is 0", x -> {
            x.cloud(1, 1, 0, 3, 3);
            is(x.at(0, 0, 2), 0);
        });
        test("at: what 2 over water is 2, and a flag does not help", x -> {
            x.cloud(1, 1, 0, 3, 3);
            x.put(27, 2, 1);
            x.flag(0, 0, 1);
            is(x.at(0, 0, 2), 2);
            is(x.at(0, 1, 0), 3);
        });
        test("at: over water the wind goes on, and beyond it flags help", x -> {
            x.cloud(1, 1, 0, 3, 3);
            x.wind(0, 1, 0);
            x.put(27, 2, 1);
            x.flag(0, 0, 2);
            x.flag(1, 0, 2);
            same(row(x.at(0, 1, 0), x.at(0, 1, 1), x.at(0, 2, 0), x.at(0, 2, 1)), "4 3 5 4");
        });
        for (int field : new int[] {0, 7, 56, 63}) {
            test("at: water of field " + field + ", the corner alone counts", x -> {
                x.put(field, 2, 1);
                x.cloud(3, 3, 0, field % 8, field / 8);
                x.cloud(3, 3, 0, field % 8 - 1, field / 8);
                x.cloud(3, 3, 0, field % 8, field / 8 - 1);
                x.cloud(3, 3, 0, field % 8 + 1, field / 8);
                x.cloud(3, 3, 0, field % 8, field / 8 + 1);
                same(row(x.at(0, 0, 2), x.at(1, 0, 2), x.at(2, 0, 2), x.at(3, 0, 2), x.at(4, 0, 2)), "2 0 0 0 0");
            });
        }
        test("at: a corner off the plain is over no water", x -> {
            for (int field = 0; field < 64; field++) {
                x.put(field, 2, 1);
            }
            x.cloud(3, 3, 0, -1, 1);
            x.cloud(3, 3, 0, 1, -1);
            x.cloud(3, 3, 0, 8, 0);
            x.cloud(3, 3, 0, 7, 8);
            same(row(x.at(0, 0, 2), x.at(1, 0, 2), x.at(2, 0, 2), x.at(3, 0, 2)), "0 0 0 0");
            x.flag(0, 0, 3);
            is(x.at(0, 1, 0), -2);
        });
        test("at: what 2 of a barred cloud is 1, and a flag does not help", x -> {
            rule(x, "bars");
            x.cloud(1, 1, 0, 3, 3);
            x.flag(0, 0, 1);
            is(x.at(0, 0, 2), 1);
            is(x.at(0, 11, 2), 1);
            is(x.at(0, 1, 0), 3);
        });
        test("at: barred comes ahead of over water", x -> {
            rule(x, "bars");
            x.cloud(1, 1, 0, 3, 3);
            x.put(27, 2, 1);
            is(x.at(0, 0, 2), 1);
        });
        test("at: of no cloud there is nothing", x -> is(x.at(0, 0, 0), NOTHING));
        undisturbed("at", (x, n) -> 100 * x.at(2, 3, 0) + x.at(0, 3, 1));
        fromCorner("at", x -> {
            same(row(x.at(0, 0, 0), x.at(0, 8, 0), x.at(0, 11, 1)), "15 7 4");
        }, x -> {
            same(row(x.at(0, 0, 0), x.at(0, 8, 0), x.at(0, 11, 1)), "-8 0 3");
        });
    }

    private static void dark() {
        asked("dark: hour", 0, 11, NONE, NEW, (x, n) -> x.dark(n));
        test("dark: none without a cloud", x -> is(x.dark(0), 0));
        test("dark: 44 fields are the most of five clouds", x -> {
            int[] corners = {0, 3, 24, 27, 45};
            for (int corner : corners) {
                x.cloud(3, 3, 0, corner % 8, corner / 8);
            }
            is(x.dark(0), 44);
            is(x.dark(11), 44);
        });
        test("dark: fields under two clouds count once", x -> {
            x.cloud(3, 3, 0, 0, 0);
            x.cloud(3, 3, 0, 1, 1);
            is(x.dark(0), 14);
        });
        test("dark: a cloud that is gone shades none", x -> {
            x.cloud(3, 3, 0, 0, 0);
            x.wind(0, -1, 0);
            same(row(x.dark(0), x.dark(1), x.dark(2), x.dark(3), x.dark(11)), "9 6 3 0 0");
        });
        undisturbed("dark", (x, n) -> x.dark(3));
    }

    private static void heat() {
        asked("heat: field", 0, 63, NONE, NEW, (x, n) -> x.heat(n, 0));
        asked("heat: hour", 0, 12, NONE, NEW, (x, n) -> x.heat(0, n));
        asked("heat: field in hour 12", 0, 63, NONE, NEW, (x, n) -> x.heat(n, 12));
        test("heat: in hour 0 as told", x -> {
            x.put(63, 0, 99);
            is(x.heat(63, 0), 99);
            is(x.heat(0, 0), 0);
        });
        test("heat: of hour 12 by hours 0 to 11", x -> {
            is(x.heat(0, 1), 5);
            is(x.heat(0, 11), 55);
            is(x.heat(0, 12), 60);
        });
        test("heat: hour 11 counts for hour 12", x -> {
            rule(x, "heats 50 if hour=11; cools 0");
            is(x.heat(0, 12) - x.heat(0, 11), 50);
        });
        test("heat: 0 at least", x -> {
            x.cloud(1, 1, 0, 3, 3);
            x.put(27, 0, 4);
            same(row(x.heat(27, 1), x.heat(27, 2), x.heat(27, 12)), "1 0 0");
        });
        test("heat: just down to 0", x -> {
            x.cloud(1, 1, 0, 3, 3);
            x.put(27, 0, 3);
            x.flag(0, 0, 1);
            same(row(x.heat(27, 1), x.heat(27, 2)), "0 5");
        });
        test("heat: 0 at least in each hour, not in the end alone", x -> {
            x.cloud(1, 1, 0, 3, 3);
            x.flag(3, 0, 1);
            is(x.heat(27, 5), 5);
        });
        test("heat: nothing holds it at 99", x -> {
            rule(x, "heats 99");
            x.put(0, 0, 99);
            is(x.heat(0, 12), 1287);
        });
        test("heat: cools 99 and heats 0", x -> {
            rule(x, "heats 0; cools 99");
            x.put(0, 0, 99);
            x.put(27, 0, 99);
            x.cloud(1, 1, 0, 3, 3);
            same(row(x.heat(0, 12), x.heat(27, 1)), "99 0");
        });
        test("heat: of field 0 in shade from hour 0 on", x -> {
            x.cloud(1, 1, 0, 0, 0);
            x.put(0, 0, 50);
            same(row(x.heat(0, 1), x.heat(0, 12)), "47 14");
        });
        test("heat: of field 63 under five clouds", x -> {
            for (int i = 0; i < 5; i++) {
                x.cloud(1, 1, 0, 7, 7);
            }
            rule(x, "cools shade");
            x.put(63, 0, 99);
            same(row(x.heat(63, 1), x.heat(63, 12)), "94 39");
        });
        undisturbed("heat", (x, n) -> x.heat(28, 12));
    }

    private static void scorched() {
        Body all = x -> rule(x, "heats 99");
        asked("scorched: i of 64", NONE, 63, NONE, all, (x, n) -> x.scorched(n));
        asked("scorched: i of one", NONE, 0, NONE, x -> x.put(63, 1, 1), (x, n) -> x.scorched(n));
        test("scorched: there is none", x -> {
            is(x.scorched(NONE), 0);
            is(x.scorched(0), NONE);
        });
        test("scorched: all 64", x -> {
            all.run(x);
            is(x.scorched(NONE), 64);
            is(x.scorched(0), 0);
            is(x.scorched(63), 63);
        });
        test("scorched: not at its limit", x -> {
            x.put(0, 1, 60);
            is(x.scorched(NONE), 0);
        });
        test("scorched: one above its limit", x -> {
            x.put(0, 1, 59);
            is(x.scorched(NONE), 1);
        });
        test("scorched: in hour 12 alone", x -> {
            rule(x, "heats 0; heats 9 if hour=11");
            x.put(0, 1, 8);
            is(x.scorched(0), 0);
        });
        test("scorched: in hour 0 alone", x -> {
            x.cloud(1, 1, 0, 3, 3);
            x.put(27, 0, 9);
            x.put(27, 1, 8);
            is(x.scorched(0), 27);
        });
        test("scorched: at its limit in hour 0 alone it is not", x -> {
            x.cloud(1, 1, 0, 3, 3);
            x.put(27, 0, 9);
            x.put(27, 1, 9);
            is(x.scorched(NONE), 0);
        });
        test("scorched: in an hour between alone", x -> {
            x.cloud(1, 1, 0, 3, 3);
            x.flag(0, 0, 1);
            x.flag(2, 0, 3);
            x.put(27, 1, 9);
            is(x.scorched(NONE), 1);
            x.put(27, 1, 10);
            is(x.scorched(NONE), 0);
        });
        test("scorched: limit 999 is passed, too", x -> {
            all.run(x);
            x.put(0, 1, 999);
            is(x.scorched(0), 0);
        });
        test("scorched: by their numbers", x -> {
            x.put(63, 1, 1);
            x.put(0, 1, 1);
            x.put(8, 1, 1);
            same(row(x.scorched(NONE), x.scorched(0), x.scorched(1), x.scorched(2), x.scorched(3)), "3 0 8 63 -1");
        });
        test("scorched: the next field of one under five clouds", x -> {
            fiveClouds(x);
            x.put(27, 1, 1);
            x.put(28, 1, 59);
            same(row(x.scorched(NONE), x.scorched(0)), "1 28");
        });
        undisturbed("scorched", (x, n) -> x.scorched(5));
    }

    private static void broken() {
        Body eight = x -> {
            for (int i = 0; i < 8; i++) {
                x.contract(0, 0, 0, 1, 1);
            }
        };
        asked("broken: contract of eight", 0, 7, NONE, eight, (x, n) -> x.broken(n));
        asked("broken: contract of one", 0, 0, NONE, x -> x.contract(0, 0, 0, 1, 1), (x, n) -> x.broken(n));
        test("broken: there is no contract", x -> is(x.broken(0), NONE));
        test("broken: none behind the last, whatever would stand there", x -> {
            x.cloud(1, 1, 0, 0, 0);
            x.contract(0, 0, 0, 0, 1);
            x.contract(0, 0, 0, 0, 1);
            x.cancel();
            x.contract(0, 0, 0, 0, 1);
            is(x.broken(1), NONE);
            is(x.broken(0), 0);
        });
        Body passing = x -> {
            x.cloud(1, 1, 0, 3, 3);
            x.wind(0, 1, 0);
        };
        int[][] cases = {
            // field, from, till, is, the hour it is broken in; field 30 is in shade in hour 3 alone
            {30, 3, 3, 1, NONE}, {30, 2, 3, 1, 2}, {30, 3, 4, 1, 4}, {30, 3, 11, 1, 4}, {30, 0, 11, 1, 0}, {30, 11, 11, 1, 11},
            {30, 0, 2, 0, NONE}, {30, 0, 3, 0, 3}, {30, 3, 3, 0, 3}, {30, 4, 11, 0, NONE}, {30, 0, 11, 0, 3}, {27, 0, 0, 1, NONE},
            {27, 0, 0, 0, 0}, {27, 0, 1, 1, 1}};
        for (int[] c : cases) {
            test("broken: field " + c[0] + " from " + c[1] + " till " + c[2] + (c[3] == 1 ? " in shade" : " in sun"), x -> {
                passing.run(x);
                x.contract(c[0], c[1], c[2], c[3], 1);
                is(x.broken(0), c[4]);
            });
        }
        test("broken: in hour 11, the last", x -> {
            x.cloud(1, 1, 0, -8, 0);
            x.wind(0, 1, 0);
            x.contract(3, 0, 11, 0, 1);
            x.contract(3, 0, 10, 0, 1);
            same(row(x.broken(0), x.broken(1)), "11 -1");
        });
        test("broken: any cloud's shade counts", x -> {
            passing.run(x);
            x.cloud(1, 1, 1, 4, 3);
            x.contract(28, 0, 11, 1, 1);
            x.contract(28, 0, 11, 0, 1);
            same(row(x.broken(0), x.broken(1)), "-1 0");
        });
        undisturbed("broken", (x, n) -> x.broken(0));
    }

    private static void judge() {
        asked("judge: what", 0, 1, NONE, x -> x.contract(0, 0, 0, 1, 1), (x, n) -> x.judge(n));
        test("judge: there is no contract", x -> same(row(x.judge(0), x.judge(1)), "-1 0"));
        test("judge: none is broken", x -> {
            x.contract(0, 0, 11, 0, 99);
            same(row(x.judge(0), x.judge(1)), "-1 99");
        });
        test("judge: all eight are kept", x -> {
            for (int i = 0; i < 8; i++) {
                x.contract(i, 0, 11, 0, 99);
            }
            same(row(x.judge(0), x.judge(1)), "-1 792");
        });
        test("judge: all eight are broken", x -> {
            for (int i = 0; i < 8; i++) {
                x.contract(i, 7 - i, 11, 1, 99);
            }
            same(row(x.judge(0), x.judge(1)), "7 0");
        });
        test("judge: by hours ahead of numbers", x -> {
            x.contract(0, 11, 11, 1, 5);
            x.contract(0, 10, 11, 1, 6);
            x.contract(0, 0, 0, 0, 7);
            same(row(x.judge(0), x.judge(1)), "1 7");
        });
        test("judge: by numbers in the same hour", x -> {
            x.contract(0, 5, 5, 0, 5);
            x.contract(0, 5, 5, 1, 6);
            x.contract(1, 5, 5, 1, 7);
            same(row(x.judge(0), x.judge(1)), "1 5");
        });
        test("judge: contract 0 in hour 11", x -> {
            x.contract(0, 11, 11, 1, 5);
            same(row(x.judge(0), x.judge(1)), "0 0");
        });
        test("judge: by clouds as told", x -> {
            x.cloud(1, 1, 0, 3, 3);
            x.flag(6, 0, 1);
            x.contract(27, 0, 6, 1, 5);
            x.contract(27, 0, 7, 1, 6);
            x.contract(28, 0, 6, 0, 7);
            same(row(x.judge(0), x.judge(1)), "1 12");
        });
        undisturbed("judge", (x, n) -> 100 * x.judge(0) + x.judge(1));
    }

    // ---- promises 28 to 35: what is asked on paper ----

    private static void drive() {
        asked("drive: cloud of one", 0, 0, NONE, ONE_CLOUD, (x, n) -> x.drive(n, 27, 0, 0, NONE));
        asked("drive: cloud of five", 0, 4, NONE, BoundaryTest::fiveClouds, (x, n) -> x.drive(n, 27, 0, 0, NONE));
        asked("drive: field", 0, 63, NONE, ONE_CLOUD, (x, n) -> x.drive(0, n, 11, 11, NONE));
        asked("drive: from", 0, 11, NONE, ONE_CLOUD, (x, n) -> x.drive(0, 27, n, 11, NONE));
        asked("drive: till", 0, 11, NONE, ONE_CLOUD, (x, n) -> x.drive(0, 27, 0, n, NONE));
        asked("drive: i till 11", NONE, 10, NONE, ONE_CLOUD, (x, n) -> x.drive(0, 27, 0, 11, n));
        asked("drive: i till 5", NONE, 4, NONE, ONE_CLOUD, (x, n) -> x.drive(0, 27, 0, 5, n));
        asked("drive: i till 0", NONE, NONE, NONE, ONE_CLOUD, (x, n) -> x.drive(0, 27, 0, 0, n));
        test("drive: till ahead of from can't be", x -> {
            x.cloud(1, 1, 0, 3, 3);
            is(x.drive(0, 27, 5, 4, NONE), NONE);
        });
        test("drive: of hour 0 it is there or not", x -> {
            x.cloud(1, 1, 0, 3, 3);
            same(row(x.drive(0, 27, 0, 0, NONE), x.drive(0, 28, 0, 0, NONE)), "0 -1");
        });
        test("drive: no flag at all", x -> {
            x.cloud(1, 1, 0, 3, 3);
            is(x.drive(0, 27, 0, 11, NONE), 0);
            for (int i = 0; i <= 10; i++) {
                is(x.drive(0, 27, 0, 11, i), 4);
            }
        });
        test("drive: eleven flags, all that can be", x -> {
            x.cloud(1, 1, 0, -8, 3);
            is(x.drive(0, 27, 11, 11, NONE), 11);
            for (int i = 0; i <= 10; i++) {
                is(x.drive(0, 27, 11, 11, i), 1);
            }
        });
        test("drive: twelve flags can't be", x -> {
            x.cloud(1, 1, 0, -8, 3);
            same(row(x.drive(0, 28, 11, 11, NONE), x.drive(0, 28, 11, 11, 0)), "-1 -1");
        });
        test("drive: just in time, and too late", x -> {
            x.cloud(1, 1, 0, 3, 3);
            same(row(x.drive(0, 29, 2, 11, NONE), x.drive(0, 29, 1, 11, NONE)), "2 -1");
        });
        test("drive: the first as a row, none last", x -> {
            x.cloud(1, 1, 0, 3, 3);
            same(row(x.drive(0, 36, 3, 3, 0), x.drive(0, 36, 3, 3, 1), x.drive(0, 36, 3, 3, 2)), "1 2 4");
        });
        test("drive: the fewest flags ahead of the first row", x -> {
            x.cloud(1, 1, 0, 3, 3);
            x.wind(0, 1, 0);
            same(row(x.drive(0, 29, 2, 2, NONE), x.drive(0, 29, 2, 2, 0)), "0 4");
        });
        test("drive: any field of the shadow will do", x -> {
            x.cloud(3, 3, 0, 3, 3);
            same(row(x.drive(0, 45, 0, 11, NONE), x.drive(0, 46, 1, 11, NONE), x.drive(0, 54, 2, 2, NONE)), "0 1 2");
        });
        test("drive: flags of that cloud as told do not count", x -> {
            x.cloud(1, 1, 0, 3, 3);
            x.flag(0, 0, 1);
            same(row(x.drive(0, 27, 0, 11, NONE), x.drive(0, 28, 1, 1, NONE)), "0 1");
        });
        test("drive: as many as one likes, even with 24 told", x -> {
            allFlags(x);
            is(x.drive(2, 24, 11, 11, NONE), 3);
            is(x.count(1), 24);
        });
        test("drive: other clouds' shade is no help", x -> {
            x.cloud(1, 1, 0, 3, 3);
            x.cloud(1, 1, 0, 4, 3);
            is(x.drive(0, 28, 0, 0, NONE), NONE);
        });
        test("drive: over water no flag helps", x -> {
            x.cloud(1, 1, 0, 3, 3);
            x.put(27, 2, 1);
            same(row(x.drive(0, 28, 11, 11, NONE), x.drive(0, 27, 0, 11, NONE)), "-1 0");
        });
        test("drive: barred till hour 5, then not", x -> {
            rule(x, "bars if hour<5");
            x.cloud(1, 1, 0, 3, 3);
            same(row(x.drive(0, 28, 5, 5, NONE), x.drive(0, 28, 6, 6, NONE), x.drive(0, 28, 6, 6, 5)), "-1 1 1");
        });
        test("drive: a cloud that is gone does not come back", x -> {
            x.cloud(3, 3, 0, -8, 3);
            x.wind(0, -1, 0);
            x.put(24, 2, 1);
            is(x.drive(0, 24, 11, 11, NONE), NONE);
        });
        test("drive: it shades in all hours from the first till the last", x -> {
            x.cloud(1, 1, 0, 3, 3);
            x.wind(0, 1, 0);
            same(row(x.drive(0, 28, 1, 1, NONE), x.drive(0, 28, 1, 2, NONE), x.drive(0, 28, 1, 11, NONE)), "0 1 10");
        });
        for (int direction = 0; direction < 4; direction++) {
            int d = direction;
            test("drive: a row of direction " + direction, x -> {
                x.cloud(1, 1, 0, 3, 4);
                int field = 35 + new int[] {-8, 1, 8, -1}[d];
                same(row(x.drive(0, field, 1, 1, NONE), x.drive(0, field, 1, 1, 0)), row(1, d));
            });
        }
        test("drive: a row by the wind", x -> {
            x.cloud(1, 1, 0, 3, 3);
            x.wind(0, 1, 0);
            x.put(36, 2, 1);
            same(row(x.drive(0, 38, 3, 3, NONE), x.drive(0, 38, 3, 3, 0), x.drive(0, 38, 3, 3, 1), x.drive(0, 38, 3, 3, 2)), "1 2 4 4");
            x.put(27, 2, 1);
            same(row(x.drive(0, 38, 3, 3, NONE), x.drive(0, 38, 3, 3, 0), x.drive(0, 38, 3, 3, 1), x.drive(0, 38, 3, 3, 2)), "1 4 2 4");
        });
        undisturbed("drive", (x, n) -> 10 * x.drive(0, 38, 6, 7, NONE) + x.drive(0, 38, 6, 7, 2));
        fromCorner("drive", x -> {
            same(row(x.drive(0, 63, 8, 8, NONE), x.drive(0, 63, 8, 8, 0), x.drive(0, 62, 8, 8, NONE), x.drive(0, 62, 8, 8, 0)), "0 4 1 3");
        }, x -> {
            same(row(x.drive(0, 0, 8, 8, NONE), x.drive(0, 0, 8, 8, 7), x.drive(0, 1, 8, 8, NONE), x.drive(0, 1, 8, 8, 0)), "0 4 1 1");
        });
    }

    private static void pasture() {
        asked("pasture: cloud of one", 0, 0, NONE, ONE_CLOUD, (x, n) -> x.pasture(n, 0, NONE));
        asked("pasture: n", 0, 11, NONE, ONE_CLOUD, (x, n) -> x.pasture(0, n, NONE));
        asked("pasture: i", NONE, 10, NONE, ONE_CLOUD, (x, n) -> x.pasture(0, 0, n));
        test("pasture: hours 0 to 11 of a still cloud", x -> {
            x.cloud(1, 1, 0, 3, 3);
            is(x.pasture(0, 0, NONE), 12);
            for (int i = 0; i <= 10; i++) {
                is(x.pasture(0, 0, i), 4);
            }
        });
        test("pasture: the most worth that can be", x -> {
            rule(x, "worth 99");
            x.cloud(3, 3, 0, 3, 3);
            is(x.pasture(0, 11, NONE), 12 * 9 * 99);
        });
        test("pasture: eleven flags are needed, ten are too few", x -> {
            x.cloud(3, 3, 0, -8, -7);
            same(row(x.pasture(0, 11, NONE), x.pasture(0, 10, NONE)), "1 0");
            for (int i = 0; i <= 10; i++) {
                is(x.pasture(0, 11, i), i < 6 ? 1 : 2);
            }
        });
        test("pasture: too far off for eleven", x -> {
            x.cloud(3, 3, 0, -8, -8);
            is(x.pasture(0, 11, NONE), 0);
        });
        test("pasture: hour 0 counts", x -> {
            rule(x, "worth 0; worth 7 if hour=0");
            x.cloud(1, 1, 0, 3, 3);
            is(x.pasture(0, 11, NONE), 7);
        });
        test("pasture: hour 11 counts", x -> {
            rule(x, "worth 0; worth 7 if hour=11 and x=4");
            x.cloud(1, 1, 0, 3, 3);
            same(row(x.pasture(0, 0, NONE), x.pasture(0, 1, NONE), x.pasture(0, 1, 0), x.pasture(0, 1, 1)), "0 7 1 4");
        });
        test("pasture: a flag in hour 10 is the last that can help", x -> {
            rule(x, "worth 1; worth 7 if hour=11 and x=4; worth 99 if hour<11 and x=3");
            x.cloud(1, 1, 0, 3, 3);
            same(row(x.pasture(0, 1, NONE), x.pasture(0, 1, 9), x.pasture(0, 1, 10)), "1096 4 1");
        });
        test("pasture: by at most n, fewer will do", x -> {
            rule(x, "worth 0; worth 9 if x=3 and y=3");
            x.cloud(1, 1, 0, 3, 3);
            same(row(x.pasture(0, 11, NONE), x.pasture(0, 11, 0), x.pasture(0, 11, 9)), "108 4 4");
        });
        test("pasture: the first as a row", x -> {
            rule(x, "worth 0; worth 9 if hour=2 and x=4 and y=4");
            x.cloud(1, 1, 0, 3, 3);
            same(row(x.pasture(0, 2, NONE), x.pasture(0, 2, 0), x.pasture(0, 2, 1), x.pasture(0, 2, 2)), "9 1 2 4");
        });
        test("pasture: other clouds' shade is aside", x -> {
            fiveClouds(x);
            is(x.pasture(0, 0, NONE), 12);
        });
        test("pasture: flags of that cloud as told do not count", x -> {
            x.cloud(1, 1, 0, 7, 3);
            x.flag(0, 0, 1);
            is(x.pasture(0, 0, NONE), 12);
        });
        test("pasture: a cloud that is gone shades none", x -> {
            x.cloud(3, 3, 0, 0, 0);
            x.wind(0, -1, 0);
            is(x.pasture(0, 0, NONE), 18);
        });
        test("pasture: over water no flag helps", x -> {
            x.put(27, 2, 1);
            rule(x, "worth 0; worth 9 if x=4");
            x.cloud(1, 1, 0, 3, 3);
            is(x.pasture(0, 11, NONE), 0);
        });
        for (int direction = 0; direction < 4; direction++) {
            int d = direction;
            test("pasture: a row of direction " + direction, x -> {
                x.cloud(1, 1, 0, 3, 4);
                int field = 35 + new int[] {-8, 1, 8, -1}[d];
                rule(x, "worth 0; worth 9 if x=" + field % 8 + " and y=" + field / 8);
                same(row(x.pasture(0, 1, NONE), x.pasture(0, 1, 0), x.pasture(0, 1, 1)), row(99, d, 4));
            });
        }
        test("pasture: a row by the wind", x -> {
            rule(x, "worth 0; worth 9 if x=6 and y=4");
            x.cloud(1, 1, 0, 3, 3);
            x.wind(0, 1, 0);
            x.put(27, 2, 1);
            same(row(x.pasture(0, 1, NONE), x.pasture(0, 1, 0), x.pasture(0, 1, 1), x.pasture(0, 1, 2)), "9 4 2 4");
        });
        undisturbed("pasture", (x, n) -> 10 * x.pasture(0, 4, NONE) + x.pasture(0, 4, 3));
        fromCorner("pasture", x -> {
            same(row(x.pasture(0, 0, NONE), x.pasture(0, 0, 0), x.pasture(0, 2, NONE), x.pasture(0, 11, NONE)), "4 4 5 6");
        }, x -> {
            same(row(x.pasture(0, 0, NONE), x.pasture(0, 0, 0), x.pasture(0, 2, NONE), x.pasture(0, 11, NONE)), "4 4 5 6");
        });
    }

    private static void serve() {
        asked("serve: cloud of one", 0, 0, NONE, ONE_CLOUD, (x, n) -> x.serve(n, 0));
        asked("serve: what", 0, 1, NONE, ONE_CLOUD, (x, n) -> x.serve(0, n));
        test("serve: there is no contract", x -> {
            x.cloud(1, 1, 0, 3, 3);
            same(row(x.serve(0, 0), x.serve(0, 1)), "0 0");
        });
        test("serve: contracts for sun are none of it", x -> {
            x.cloud(1, 1, 0, 3, 3);
            x.contract(0, 0, 11, 0, 50);
            x.contract(27, 0, 11, 1, 5);
            same(row(x.serve(0, 0), x.serve(0, 1)), "5 2");
        });
        test("serve: a contract for sun on a field in its shade is none of it", x -> {
            x.cloud(1, 1, 0, 3, 3);
            x.contract(27, 0, 11, 0, 50);
            x.contract(27, 0, 11, 1, 5);
            x.contract(27, 0, 11, 0, 50);
            same(row(x.serve(0, 0), x.serve(0, 1)), "5 2");
        });
        test("serve: none can be kept", x -> {
            x.cloud(1, 1, 0, 3, 3);
            x.contract(0, 0, 0, 1, 50);
            same(row(x.serve(0, 0), x.serve(0, 1)), "0 0");
        });
        test("serve: all eight", x -> {
            x.cloud(1, 1, 0, 3, 3);
            for (int i = 0; i < 8; i++) {
                x.contract(27, i, 11, 1, 99);
            }
            same(row(x.serve(0, 0), x.serve(0, 1)), "792 255");
        });
        test("serve: the eighth alone", x -> {
            x.cloud(1, 1, 0, 3, 3);
            for (int i = 0; i < 7; i++) {
                x.contract(0, 0, 0, 1, 99);
            }
            x.contract(27, 0, 11, 1, 1);
            same(row(x.serve(0, 0), x.serve(0, 1)), "1 128");
        });
        test("serve: the lowest as bits of two with the same fees", x -> {
            x.cloud(1, 1, 0, 3, 3);
            x.contract(28, 1, 1, 1, 9);
            x.contract(26, 1, 1, 1, 9);
            same(row(x.serve(0, 0), x.serve(0, 1)), "9 1");
        });
        test("serve: two low ones are lower than one high one", x -> {
            x.cloud(1, 1, 0, 3, 3);
            x.contract(28, 1, 1, 1, 4);
            x.contract(28, 1, 2, 1, 5);
            x.contract(26, 1, 1, 1, 9);
            same(row(x.serve(0, 0), x.serve(0, 1)), "9 3");
        });
        test("serve: one more fee is more", x -> {
            x.cloud(1, 1, 0, 3, 3);
            x.contract(28, 1, 1, 1, 8);
            x.contract(26, 1, 1, 1, 9);
            same(row(x.serve(0, 0), x.serve(0, 1)), "9 2");
        });
        test("serve: one behind another one, just in time", x -> {
            x.cloud(1, 1, 0, 3, 3);
            x.contract(27, 0, 3, 1, 8);
            x.contract(29, 5, 11, 1, 9);
            same(row(x.serve(0, 0), x.serve(0, 1)), "17 3");
        });
        test("serve: one behind another one, too late", x -> {
            x.cloud(1, 1, 0, 3, 3);
            x.contract(27, 0, 4, 1, 8);
            x.contract(29, 5, 11, 1, 9);
            same(row(x.serve(0, 0), x.serve(0, 1)), "9 2");
        });
        test("serve: two fields at once by a wide one alone", x -> {
            x.cloud(1, 1, 0, 3, 3);
            x.cloud(2, 1, 0, 3, 3);
            x.contract(27, 5, 5, 1, 8);
            x.contract(28, 5, 5, 1, 8);
            same(row(x.serve(0, 0), x.serve(0, 1), x.serve(1, 0), x.serve(1, 1)), "8 1 16 3");
        });
        test("serve: other clouds are aside", x -> {
            x.cloud(1, 1, 0, 3, 3);
            x.cloud(1, 1, 0, 0, 0);
            x.contract(0, 0, 0, 1, 9);
            same(row(x.serve(0, 0), x.serve(1, 0)), "0 9");
        });
        test("serve: flags of that cloud as told do not count", x -> {
            x.cloud(1, 1, 0, 3, 3);
            x.flag(0, 0, 1);
            x.contract(27, 0, 11, 1, 9);
            is(x.serve(0, 0), 9);
        });
        test("serve: over water no flag helps, in hour 11 none is needed", x -> {
            x.cloud(1, 1, 0, -8, 3);
            x.wind(0, 1, 0);
            x.put(26, 2, 1);
            x.contract(27, 11, 11, 1, 9);
            x.contract(26, 10, 11, 1, 20);
            same(row(x.serve(0, 0), x.serve(0, 1)), "9 1");
        });
        test("serve: barred no flag helps", x -> {
            rule(x, "bars if y=5");
            x.cloud(1, 1, 0, 2, 5);
            x.cloud(1, 1, 0, 2, 4);
            x.contract(43, 1, 1, 1, 9);
            x.contract(35, 1, 1, 1, 9);
            same(row(x.serve(0, 1), x.serve(1, 1)), "0 2");
        });
        for (int direction = 0; direction < 4; direction++) {
            int d = direction;
            test("serve: by a flag in direction " + direction, x -> {
                x.cloud(1, 1, 0, 2, 5);
                x.contract(42 + new int[] {-8, 1, 8, -1}[d], 1, 1, 1, 9);
                x.contract(42 + 2 * new int[] {-8, 1, 8, -1}[d], 1, 1, 1, 50);
                same(row(x.serve(0, 0), x.serve(0, 1)), "9 1");
            });
            test("serve: by the wind in direction " + direction, x -> {
                x.cloud(1, 1, 0, 2, 5);
                x.wind(0, new int[] {0, 1, 0, -1}[d], new int[] {-1, 0, 1, 0}[d]);
                x.put(42, 2, 1);
                x.contract(42 + new int[] {-8, 1, 8, -1}[d], 1, 1, 1, 9);
                x.contract(42, 1, 1, 1, 50);
                same(row(x.serve(0, 0), x.serve(0, 1)), "9 1");
            });
        }
        test("serve: fields one below another one by a tall one", x -> {
            x.cloud(1, 3, 0, 2, 5);
            x.contract(42, 0, 0, 1, 9);
            x.contract(58, 0, 0, 1, 9);
            x.contract(34, 0, 0, 1, 9);
            same(row(x.serve(0, 0), x.serve(0, 1)), "18 3");
        });
        test("serve: fields side by side by a wide one", x -> {
            x.cloud(3, 1, 0, 2, 5);
            x.contract(42, 0, 0, 1, 9);
            x.contract(44, 0, 0, 1, 9);
            x.contract(45, 0, 0, 1, 9);
            x.contract(41, 0, 0, 1, 9);
            same(row(x.serve(0, 0), x.serve(0, 1)), "18 3");
        });
        test("serve: eleven flags are just enough, twelve are too many", x -> {
            x.cloud(3, 3, 0, -8, -7);
            x.cloud(3, 3, 0, -8, -8);
            x.contract(0, 11, 11, 1, 9);
            same(row(x.serve(0, 0), x.serve(1, 0)), "9 0");
        });
        test("serve: from each edge of the sky, against no wind", x -> {
            x.cloud(1, 1, 0, 3, 15);
            x.cloud(1, 1, 0, 15, 3);
            x.cloud(1, 1, 0, 3, -8);
            x.cloud(1, 1, 0, -8, 3);
            x.contract(59, 8, 8, 1, 1);
            x.contract(31, 8, 8, 1, 2);
            x.contract(3, 8, 8, 1, 4);
            x.contract(24, 8, 8, 1, 8);
            same(row(x.serve(0, 0), x.serve(1, 0), x.serve(2, 0), x.serve(3, 0)), "1 2 4 8");
        });
        test("serve: a cloud that is gone keeps none", x -> {
            x.cloud(3, 3, 0, 0, 0);
            x.wind(0, -1, -1);
            x.put(0, 2, 1);
            x.contract(0, 1, 2, 1, 9);
            x.contract(0, 11, 11, 1, 20);
            same(row(x.serve(0, 0), x.serve(0, 1)), "9 1");
        });
        undisturbed("serve", (x, n) -> 1000 * x.serve(1, 0) + x.serve(1, 1));
        fromCorner("serve", x -> {
            x.contract(63, 8, 8, 1, 9);
            x.contract(36, 11, 11, 1, 9);
            same(row(x.serve(0, 0), x.serve(0, 1)), "18 3");
            rule(x, "bars");
            same(row(x.serve(0, 0), x.serve(0, 1)), "18 3");
        }, x -> {
            x.contract(0, 8, 8, 1, 9);
            x.contract(27, 11, 11, 1, 9);
            same(row(x.serve(0, 0), x.serve(0, 1)), "18 3");
            rule(x, "bars");
            same(row(x.serve(0, 0), x.serve(0, 1)), "18 3");
        });
    }

    private static void cross() {
        Body two = x -> {
            x.cloud(3, 3, 0, 3, 3);
            x.cloud(3, 3, 1, 3, 3);
        };
        asked("cross: one", 0, 0, NONE, two, (x, n) -> x.cross(n, 1, 0));
        asked("cross: other", 1, 1, NONE, two, (x, n) -> x.cross(0, n, 0));
        asked("cross: what", 0, 1, NONE, two, (x, n) -> x.cross(0, 1, n));
        asked("cross: one of five", 0, 3, NONE, BoundaryTest::fiveClouds, (x, n) -> x.cross(n, 4, 0));
        test("cross: the same one", x -> {
            two.run(x);
            same(row(x.cross(0, 0, 0), x.cross(1, 1, 0), x.cross(1, 1, 1)), "-1 -1 -1");
        });
        test("cross: there is no cloud", x -> is(x.cross(0, 1, 0), NONE));
        test("cross: in hour 0, nine fields", x -> {
            two.run(x);
            same(row(x.cross(0, 1, 0), x.cross(0, 1, 1), x.cross(1, 0, 0), x.cross(1, 0, 1)), "0 9 0 9");
        });
        test("cross: one field", x -> {
            x.cloud(3, 3, 0, 0, 0);
            x.cloud(3, 3, 0, 2, 2);
            same(row(x.cross(0, 1, 0), x.cross(0, 1, 1)), "0 1");
        });
        test("cross: side by side they have none in common", x -> {
            x.cloud(3, 3, 0, 0, 0);
            x.cloud(3, 3, 0, 3, 0);
            x.cloud(3, 3, 0, 0, 3);
            same(row(x.cross(0, 1, 0), x.cross(0, 2, 0), x.cross(1, 2, 1)), "-1 -1 -1");
        });
        test("cross: in hour 11, the last", x -> {
            x.cloud(1, 1, 0, -8, 3);
            x.cloud(1, 1, 1, 3, 3);
            x.wind(0, 1, 0);
            same(row(x.cross(0, 1, 0), x.cross(0, 1, 1)), "11 1");
        });
        test("cross: hour 12 is none", x -> {
            x.cloud(1, 1, 0, -8, 3);
            x.cloud(1, 1, 1, 4, 3);
            x.wind(0, 1, 0);
            same(row(x.cross(0, 1, 0), x.cross(0, 1, 1)), "-1 -1");
        });
        test("cross: in the first hour, not in that with the most fields", x -> {
            x.cloud(3, 3, 0, 0, 3);
            x.cloud(3, 3, 1, 4, 3);
            x.wind(0, 1, 0);
            same(row(x.cross(0, 1, 0), x.cross(0, 1, 1)), "2 3");
        });
        test("cross: off the plain there are no fields", x -> {
            x.cloud(3, 3, 0, 8, 8);
            x.cloud(3, 3, 0, 8, 8);
            x.cloud(3, 3, 0, -3, -3);
            x.cloud(3, 3, 0, -3, -3);
            same(row(x.cross(0, 1, 0), x.cross(2, 3, 0)), "-1 -1");
        });
        test("cross: at the edge only fields that there are count", x -> {
            x.cloud(3, 3, 0, 7, 7);
            x.cloud(3, 3, 0, 6, 6);
            x.cloud(3, 3, 0, -2, -1);
            x.cloud(3, 3, 0, -1, -2);
            same(row(x.cross(0, 1, 1), x.cross(2, 3, 1)), "1 1");
        });
        test("cross: those that are gone have none", x -> {
            x.cloud(1, 1, 0, 15, 15);
            x.cloud(1, 1, 0, 15, 15);
            x.wind(0, 1, 1);
            is(x.cross(0, 1, 0), NONE);
        });
        test("cross: flags as told count", x -> {
            x.cloud(1, 1, 0, 3, 3);
            x.cloud(1, 1, 0, 4, 3);
            x.flag(5, 0, 1);
            is(x.cross(0, 1, 0), 6);
        });
        undisturbed("cross", (x, n) -> 100 * x.cross(0, 1, 0) + x.cross(1, 2, 1));
    }

    private static void part() {
        Body two = x -> {
            x.cloud(1, 1, 0, 3, 3);
            x.cloud(1, 1, 1, 5, 5);
        };
        asked("part: one", 0, 0, NONE, two, (x, n) -> x.part(n, 1));
        asked("part: other", 1, 1, NONE, two, (x, n) -> x.part(0, n));
        test("part: the same one", x -> {
            two.run(x);
            same(row(x.part(0, 0), x.part(1, 1)), "-1 -1");
        });
        test("part: there is no cloud", x -> is(x.part(0, 1), NONE));
        test("part: they never meet", x -> {
            two.run(x);
            is(x.part(0, 1), 0);
        });
        test("part: in hour 0 it is too late", x -> {
            fiveClouds(x);
            is(x.part(0, 1), NONE);
        });
        test("part: in hour 1 one flag will do", x -> {
            x.cloud(1, 1, 0, 3, 3);
            x.cloud(1, 1, 1, 4, 3);
            x.wind(0, 1, 0);
            is(x.part(0, 1), 1);
        });
        test("part: in hour 11, too", x -> {
            x.cloud(1, 1, 0, -8, 3);
            x.cloud(1, 1, 1, 3, 3);
            x.wind(0, 1, 0);
            is(x.part(0, 1), 1);
        });
        test("part: hour 12 does not matter", x -> {
            x.cloud(1, 1, 0, -8, 3);
            x.cloud(1, 1, 1, 4, 3);
            x.wind(0, 1, 0);
            is(x.part(0, 1), 0);
        });
        test("part: eleven flags against the wind", x -> {
            x.cloud(1, 1, 0, 0, 3);
            x.cloud(3, 3, 1, 1, 2);
            x.wind(0, 1, 0);
            is(x.part(0, 1), 11);
        });
        test("part: over water it can't be", x -> {
            x.cloud(1, 1, 0, 3, 3);
            x.cloud(1, 1, 1, 4, 3);
            x.wind(0, 1, 0);
            x.put(27, 2, 1);
            is(x.part(0, 1), NONE);
        });
        test("part: barred it can't be", x -> {
            rule(x, "bars if cloud=0");
            x.cloud(1, 1, 0, 3, 3);
            x.cloud(1, 1, 1, 4, 3);
            x.wind(0, 1, 0);
            is(x.part(0, 1), NONE);
        });
        test("part: off the plain they may be together", x -> {
            x.cloud(3, 3, 0, 8, 8);
            x.cloud(3, 3, 0, 8, 8);
            is(x.part(0, 1), 0);
        });
        test("part: one that is gone is in no shadow", x -> {
            x.cloud(1, 1, 0, -8, 0);
            x.cloud(1, 1, 1, 0, 0);
            x.wind(0, -1, 0);
            is(x.part(0, 1), 0);
        });
        test("part: flags of the first as told do not count, those of the other one do", x -> {
            x.cloud(1, 1, 0, 3, 3);
            x.cloud(1, 1, 0, 4, 3);
            x.flag(0, 0, 1);
            is(x.part(0, 1), 0);
            is(x.part(1, 0), 1);
        });
        undisturbed("part", (x, n) -> 100 * x.part(0, 1) + x.part(1, 2));
        fromCorner("part", x -> {
            x.cloud(1, 1, 1, 7, 7);
            is(x.part(0, 1), 1);
        }, x -> {
            x.cloud(1, 1, 1, 0, 0);
            is(x.part(0, 1), 1);
        });
    }

    private static void likely() {
        asked("likely: cloud of one", 0, 0, NONE, ONE_CLOUD, (x, n) -> x.likely(n, 27, 0));
        asked("likely: field", 0, 63, NONE, ONE_CLOUD, (x, n) -> x.likely(0, n, 0));
        asked("likely: hour", 0, 11, NONE, ONE_CLOUD, (x, n) -> x.likely(0, 27, n));
        test("likely: in hour 0 it is certain or can't be", x -> {
            x.cloud(1, 1, 0, 3, 3);
            x.wind(0, 1, 0);
            same(row(x.likely(0, 27, 0), x.likely(0, 28, 0)), row(CERTAIN, 0));
        });
        test("likely: without wind it is certain, whatever the veer", x -> {
            x.cloud(1, 1, 0, 3, 3);
            x.terms(1, 5);
            is(x.likely(0, 27, 11), CERTAIN);
        });
        test("likely: veer 0 never turns", x -> {
            x.cloud(1, 1, 0, -8, 3);
            x.wind(0, 1, 0);
            x.terms(1, 0);
            is(x.likely(0, 27, 11), CERTAIN);
        });
        test("likely: veer 10 always turns", x -> {
            x.cloud(1, 1, 0, 3, -8);
            x.wind(0, 1, 0);
            x.terms(1, 10);
            is(x.likely(0, 27, 11), CERTAIN);
        });
        test("likely: turned eleven times by veer 1, the least chance", x -> {
            x.cloud(1, 1, 0, 0, -8);
            x.wind(0, 1, 0);
            x.terms(1, 1);
            is(x.likely(0, 24, 11), 10);
        });
        test("likely: straight eleven times by veer 9", x -> {
            x.cloud(1, 1, 0, -8, 0);
            x.wind(0, 1, 0);
            x.terms(1, 9);
            is(x.likely(0, 3, 11), 10);
        });
        String[] winds = {"1 0 0 1", "0 1 -1 0", "-1 0 0 -1", "0 -1 1 0", "1 1 -1 1", "-1 1 -1 -1", "-1 -1 1 -1", "1 -1 1 1"};
        for (String w : winds) {
            String[] n = w.split(" ");
            test("likely: the turned wind of " + w, x -> {
                x.cloud(1, 1, 0, 3, 3);
                x.wind(0, Integer.parseInt(n[0]), Integer.parseInt(n[1]));
                x.terms(1, 3);
                is(x.likely(0, 27 + Integer.parseInt(n[0]) + 8 * Integer.parseInt(n[1]), 1), CERTAIN / 10 * 7);
                is(x.likely(0, 27 + Integer.parseInt(n[2]) + 8 * Integer.parseInt(n[3]), 1), CERTAIN / 10 * 3);
            });
        }
        test("likely: each hour turns by itself", x -> {
            x.cloud(1, 1, 0, 3, 3);
            x.wind(0, 1, 0);
            same(row(x.likely(0, 29, 2), x.likely(0, 36, 2), x.likely(0, 43, 2)), "640000000000 320000000000 40000000000");
        });
        test("likely: all fields of the shadow", x -> {
            x.cloud(3, 3, 0, 3, 3);
            x.wind(0, 1, 0);
            same(row(x.likely(0, 28, 1), x.likely(0, 27, 1), x.likely(0, 37, 1)), row(CERTAIN / 10 * 8, 0, CERTAIN));
        });
        test("likely: gone by a turned wind, for good", x -> {
            x.cloud(1, 1, 0, 0, 15);
            x.wind(0, 0, 1);
            x.terms(1, 10);
            is(x.likely(0, 0, 1), 0);
            x.cloud(3, 3, 1, -8, 0);
            x.wind(1, 0, 1);
            is(x.likely(1, 0, 11), 0);
        });
        test("likely: flags as told count, by where it is", x -> {
            x.cloud(1, 1, 0, 3, 3);
            x.wind(0, 1, 0);
            x.put(28, 2, 1);
            x.flag(1, 0, 2);
            same(row(x.likely(0, 29, 2), x.likely(0, 36, 2)), "640000000000 160000000000");
            same(row(x.likely(0, 44, 2), x.likely(0, 51, 2)), "160000000000 40000000000");
        });
        test("likely: bars by where it is", x -> {
            x.cloud(1, 1, 0, 3, 3);
            x.wind(0, 1, 0);
            rule(x, "bars if y=4 and hour=1");
            x.flag(1, 0, 2);
            same(row(x.likely(0, 37, 2), x.likely(0, 36, 2), x.likely(0, 43, 2)), "640000000000 160000000000 40000000000");
        });
        test("likely: a shorter one behind a longer one", x -> {
            x.cloud(1, 1, 0, 3, 3);
            x.wind(0, 1, 0);
            same(row(x.likely(0, 29, 2), x.likely(0, 30, 1), x.likely(0, 29, 0)), "640000000000 0 0");
        });
        undisturbed("likely", (x, n) -> x.likely(0, 37, 4));
        fromCorner("likely", x -> {
            same(row(x.likely(0, 63, 8), x.likely(0, 36, 11)), row(CERTAIN, CERTAIN));
        }, x -> {
            same(row(x.likely(0, 0, 8), x.likely(0, 27, 11)), row(CERTAIN, CERTAIN));
        });
    }

    private static void surest() {
        asked("surest: cloud of one", 0, 0, NONE, ONE_CLOUD, (x, n) -> x.surest(n, 27, 0));
        asked("surest: field", 0, 63, NONE, ONE_CLOUD, (x, n) -> x.surest(0, n, 0));
        asked("surest: hour", 0, 11, NONE, ONE_CLOUD, (x, n) -> x.surest(0, 27, n));
        test("surest: in hour 0 it is certain or can't be", x -> {
            x.cloud(1, 1, 0, 3, 3);
            same(row(x.surest(0, 27, 0), x.surest(0, 28, 0)), row(CERTAIN, 0));
        });
        test("surest: eleven flags without wind", x -> {
            x.cloud(1, 1, 0, -8, 3);
            same(row(x.surest(0, 27, 11), x.surest(0, 28, 11)), row(CERTAIN, 0));
        });
        test("surest: veer 0 never turns", x -> {
            x.cloud(1, 1, 0, 3, 3);
            x.wind(0, 1, 0);
            x.terms(1, 0);
            is(x.surest(0, 36, 1), CERTAIN);
        });
        test("surest: veer 10 always turns", x -> {
            x.cloud(1, 1, 0, 3, 3);
            x.wind(0, 1, 0);
            x.terms(1, 10);
            same(row(x.surest(0, 36, 1), x.surest(0, 29, 1)), row(CERTAIN, 0));
        });
        test("surest: eleven hours with the worst veer", x -> {
            x.cloud(1, 1, 0, -8, -8);
            x.wind(0, 1, 0);
            x.terms(1, 9);
            is(x.surest(0, 59, 11), 0);
            x.cloud(1, 1, 0, -8, 7);
            x.terms(1, 1);
            is(x.surest(1, 63, 11) > 0 ? 1 : 0, 1);
        });
        test("surest: by where it is in each hour", x -> {
            x.cloud(1, 1, 0, 3, 3);
            x.wind(0, 1, 0);
            is(x.surest(0, 36, 2), CERTAIN / 10 * 8);
        });
        test("surest: flags as told do not count", x -> {
            x.cloud(1, 1, 0, 3, 3);
            x.flag(0, 0, 1);
            is(x.surest(0, 27, 1), CERTAIN);
        });
        test("surest: over water no flag helps", x -> {
            x.cloud(1, 1, 0, 3, 3);
            x.put(27, 2, 1);
            same(row(x.surest(0, 28, 11), x.surest(0, 27, 11)), row(0, CERTAIN));
        });
        test("surest: barred in hour 0 alone", x -> {
            rule(x, "bars if hour=0");
            x.cloud(1, 1, 0, 3, 3);
            same(row(x.surest(0, 28, 1), x.surest(0, 28, 2)), row(0, CERTAIN));
        });
        undisturbed("surest", (x, n) -> x.surest(0, 38, 5));
        fromCorner("surest", x -> {
            same(row(x.surest(0, 63, 8), x.surest(0, 36, 11)), row(CERTAIN, CERTAIN));
        }, x -> {
            same(row(x.surest(0, 0, 8), x.surest(0, 27, 11)), row(CERTAIN, CERTAIN));
        });
    }

    private static void steer() {
        asked("steer: cloud of one", 0, 0, NONE, ONE_CLOUD, (x, n) -> x.steer(n, 27, 1, 0, 3, 3));
        asked("steer: field", 0, 63, NONE, ONE_CLOUD, (x, n) -> x.steer(0, n, 1, 0, 3, 3));
        asked("steer: hour", 1, 11, NONE, ONE_CLOUD, (x, n) -> x.steer(0, 27, n, 0, 3, 3));
        asked("steer: now ahead of hour 11", 0, 10, NONE, ONE_CLOUD, (x, n) -> x.steer(0, 27, 11, n, 3, 3));
        asked("steer: now ahead of hour 1", 0, 0, NONE, ONE_CLOUD, (x, n) -> x.steer(0, 27, 1, n, 3, 3));
        asked("steer: x", -8, 15, NONE, ONE_CLOUD, (x, n) -> x.steer(0, 27, 11, 0, n, 3));
        asked("steer: y", -8, 15, NONE, ONE_CLOUD, (x, n) -> x.steer(0, 27, 11, 0, 3, n));
        test("steer: hour 0 has nothing ahead", x -> {
            x.cloud(1, 1, 0, 3, 3);
            is(x.steer(0, 27, 0, 0, 3, 3), NONE);
        });
        test("steer: each direction, none last", x -> {
            x.cloud(1, 1, 0, 0, 0);
            same(row(x.steer(0, 27, 11, 10, 3, 4), x.steer(0, 27, 11, 10, 2, 3), x.steer(0, 27, 11, 10, 3, 2),
                x.steer(0, 27, 11, 10, 4, 3), x.steer(0, 27, 11, 10, 3, 3)), "0 1 2 3 4");
        });
        test("steer: the lowest of two that are as sure", x -> {
            x.cloud(1, 1, 0, 0, 0);
            same(row(x.steer(0, 27, 2, 0, 2, 2), x.steer(0, 27, 2, 0, 4, 4), x.steer(0, 27, 2, 0, 2, 4)), "1 0 0");
        });
        test("steer: from any corner, not from its own alone", x -> {
            x.cloud(1, 1, 0, 0, 0);
            same(row(x.steer(0, 27, 11, 0, -8, 3), x.steer(0, 27, 11, 0, 14, 3), x.steer(0, 27, 11, 0, 3, 14)), "1 3 0");
        });
        test("steer: by where it is after the winds", x -> {
            x.cloud(1, 1, 0, 3, 3);
            x.wind(0, 1, 0);
            is(x.steer(0, 36, 2, 0, 3, 3), 2);
            is(x.steer(0, 36, 2, 1, 4, 4), 3);
        });
        test("steer: a sure way is found, none is the last to be tried", x -> {
            x.cloud(1, 1, 0, 3, 3);
            x.put(27, 2, 1);
            is(x.steer(0, 27, 1, 0, 3, 3), 0);
        });
        test("steer: the lowest of all, if none has a chance", x -> {
            x.cloud(1, 1, 0, 3, 3);
            x.steer(0, 27, 1, 0, 3, 3);
            is(x.steer(0, 63, 1, 0, -8, -8), 0);
        });
        undisturbed("steer", (x, n) -> x.steer(0, 38, 5, 1, 3, 4));
        fromCorner("steer", x -> {
            is(x.steer(0, 63, 8, 0, 15, 15), 0);
        }, x -> {
            is(x.steer(0, 0, 8, 0, -8, -8), 0);
        });
    }

    // ---- promises 36 to 43 ----

    private static void sight() {
        numbers("sight: hour", 0, 11, -1, NEW, (x, n) -> x.sight(n, 0, 0));
        numbers("sight: field", 0, 63, -1, NEW, (x, n) -> x.sight(0, n, 0));
        numbers("sight: is", 0, 1, -1, NEW, (x, n) -> x.sight(0, 0, n));
        test("ten sights have room", x -> {
            for (int i = 1; i <= 10; i++) {
                is(x.sight(0, 0, 0), i);
            }
            is(x.count(3), 10);
        });
        refused("sight: an eleventh has no room", -5, BoundaryTest::allSights, (x, n) -> x.sight(0, 0, 0));
        refused("sight: a wrong number comes ahead of no room", -1, BoundaryTest::allSights, (x, n) -> x.sight(0, 0, 2));
        test("sight: the tenth counts", x -> {
            for (int i = 0; i < 9; i++) {
                x.sight(0, 63, 0);
            }
            x.sight(0, 0, 1);
            same(row(x.stray(1, 1, 0, NONE), x.stray(1, 1, 0, 0)), "1 200");
        });
    }

    private static void forget() {
        test("forget: there were none", x -> is(x.forget(), 0));
        test("forget: there were ten", x -> {
            allSights(x);
            is(x.forget(), 10);
            is(x.count(3), 0);
            is(x.forget(), 0);
        });
        test("forget: none is so or not so then", x -> {
            x.sight(0, 0, 1);
            x.sight(0, 0, 0);
            is(x.stray(1, 1, 0, NONE), 0);
            x.forget();
            is(x.stray(1, 1, 0, NONE), 576);
        });
        test("forget: there is room for ten again", x -> {
            allSights(x);
            x.forget();
            is(x.sight(0, 0, 0), 1);
        });
        test("forget: of none it is not refused", x -> {
            x.undo();
            x.forget();
            is(x.status(), -3);
            same(refusals(x), "0 0 1 0 0");
        });
    }

    private static void stray() {
        asked("stray: wide", 1, 3, NONE, NEW, (x, n) -> x.stray(n, 1, 0, NONE));
        asked("stray: tall", 1, 3, NONE, NEW, (x, n) -> x.stray(1, n, 0, NONE));
        asked("stray: layer", 0, 2, NONE, NEW, (x, n) -> x.stray(1, 1, n, NONE));
        asked("stray: i of 576", NONE, 575, NONE, NEW, (x, n) -> x.stray(1, 1, 0, n));
        asked("stray: i of one", NONE, 0, NONE, x -> x.sight(0, 0, 1), (x, n) -> x.stray(1, 1, 0, n));
        test("stray: without sights all corners will do", x -> {
            same(row(x.stray(1, 1, 0, NONE), x.stray(1, 1, 0, 0), x.stray(1, 1, 0, 24), x.stray(1, 1, 0, 575)), "576 0 24 575");
        });
        test("stray: by sights against one another none will do", x -> {
            x.sight(5, 9, 1);
            x.sight(5, 9, 0);
            same(row(x.stray(3, 3, 0, NONE), x.stray(3, 3, 0, 0)), "0 -1");
        });
        test("stray: field 0 in hour 0", x -> {
            x.sight(0, 0, 1);
            same(row(x.stray(1, 1, 0, NONE), x.stray(1, 1, 0, 0), x.stray(1, 1, 0, 1)), "1 200 -1");
        });
        test("stray: field 63 in hour 0", x -> {
            x.sight(0, 63, 1);
            same(row(x.stray(1, 1, 0, NONE), x.stray(1, 1, 0, 0)), "1 375");
        });
        test("stray: nine of a 3 by 3", x -> {
            x.sight(0, 0, 1);
            same(row(x.stray(3, 3, 0, NONE), x.stray(3, 3, 0, 0), x.stray(3, 3, 0, 8)), "9 150 200");
        });
        test("stray: three of a 3 by 1 and of a 1 by 3", x -> {
            x.sight(0, 0, 1);
            same(row(x.stray(3, 1, 0, NONE), x.stray(3, 1, 0, 0), x.stray(1, 3, 0, NONE), x.stray(1, 3, 0, 0)), "3 198 3 152");
        });
        test("stray: a field that was not dark", x -> {
            x.sight(0, 0, 0);
            same(row(x.stray(1, 1, 0, NONE), x.stray(1, 1, 0, 199), x.stray(1, 1, 0, 200), x.stray(1, 1, 0, 574)), "575 199 201 575");
        });
        test("stray: corner 0 in hour 11", x -> {
            x.wind(1, 1, 1);
            x.sight(11, 27, 1);
            same(row(x.stray(1, 1, 1, NONE), x.stray(1, 1, 1, 0)), "1 0");
        });
        test("stray: corner 575 in hour 11", x -> {
            x.wind(2, -1, -1);
            x.sight(11, 36, 1);
            same(row(x.stray(1, 1, 2, NONE), x.stray(1, 1, 2, 0)), "1 575");
        });
        test("stray: from beyond the edge there is none", x -> {
            x.wind(0, 1, 1);
            x.sight(11, 18, 1);
            is(x.stray(1, 1, 0, NONE), 0);
        });
        test("stray: one that is gone is nowhere dark", x -> {
            x.wind(0, 1, 0);
            for (int field = 0; field < 8; field++) {
                x.sight(11, 8 * field + 7, 0);
            }
            is(x.stray(3, 3, 0, NONE), 576 - 3 * 10);
        });
        test("stray: of it alone, other clouds are aside", x -> {
            x.cloud(1, 1, 0, 0, 0);
            x.sight(0, 0, 1);
            x.sight(0, 9, 0);
            is(x.stray(1, 1, 0, NONE), 1);
            x.sight(0, 63, 1);
            is(x.stray(1, 1, 0, NONE), 0);
        });
        test("stray: by the wind of its layer", x -> {
            x.wind(1, 1, 0);
            x.sight(1, 0, 1);
            same(row(x.stray(1, 1, 0, 0), x.stray(1, 1, 1, 0)), "200 199");
        });
        for (int layer = 0; layer < 3; layer++) {
            int k = layer;
            test("stray: by both parts of the wind of layer " + layer, x -> {
                x.wind(k, 1, -1);
                x.sight(2, 0, 1);
                for (int other = 0; other < 3; other++) {
                    is(x.stray(1, 1, other, 0), other == k ? 24 * 10 + 6 : 200);
                }
            });
        }
        test("stray: bars and flags do not matter", x -> {
            rule(x, "bars");
            x.cloud(1, 1, 0, 0, 0);
            x.flag(0, 0, 1);
            x.sight(11, 0, 1);
            is(x.stray(1, 1, 0, 0), 200);
        });
        undisturbed("stray", (x, n) -> x.stray(3, 1, 0, 2));
    }

    private static void rustled() {
        asked("rustled: i of one cloud", NONE, 43, NONE, ONE_CLOUD, (x, n) -> x.rustled(n));
        asked("rustled: i of five clouds", NONE, 219, NONE, BoundaryTest::fiveClouds, (x, n) -> x.rustled(n));
        asked("rustled: i of none", NONE, NONE, NONE, NEW, (x, n) -> x.rustled(n));
        test("rustled: without a cloud there are none", x -> same(row(x.rustled(NONE), x.rustled(0)), "0 -1"));
        test("rustled: all flags of five clouds", x -> {
            fiveClouds(x);
            same(row(x.rustled(NONE), x.rustled(0), x.rustled(19), x.rustled(20), x.rustled(219)), "220 0 19 20 219");
        });
        test("rustled: all flags of one cloud", x -> {
            x.cloud(1, 1, 0, 3, 3);
            same(row(x.rustled(NONE), x.rustled(0), x.rustled(3), x.rustled(4), x.rustled(43)), "44 0 3 20 203");
        });
        test("rustled: not in an hour in which it has one", x -> {
            x.cloud(1, 1, 0, 3, 3);
            x.flag(0, 0, 0);
            x.flag(10, 0, 0);
            same(row(x.rustled(NONE), x.rustled(0), x.rustled(35)), "36 20 183");
        });
        test("rustled: of another cloud in that hour", x -> {
            fiveClouds(x);
            x.flag(0, 0, 0);
            same(row(x.rustled(NONE), x.rustled(0)), "216 4");
        });
        test("rustled: beyond 24, too", x -> {
            allFlags(x);
            same(row(x.rustled(NONE), x.rustled(0), x.rustled(35), x.count(1)), "36 48 211 24");
        });
        test("rustled: all hours are taken", x -> {
            x.cloud(1, 1, 0, 3, 3);
            for (int hour = 0; hour <= 10; hour++) {
                x.flag(hour, 0, hour % 2);
            }
            same(row(x.rustled(NONE), x.rustled(0)), "0 -1");
        });
        test("rustled: a sight in hour 11 by a flag in hour 10", x -> {
            x.cloud(1, 1, 0, 3, 3);
            x.sight(10, 27, 1);
            x.sight(11, 26, 1);
            same(row(x.rustled(NONE), x.rustled(0)), "1 203");
        });
        test("rustled: a sight in hour 0 by none", x -> {
            x.cloud(1, 1, 0, 3, 3);
            x.sight(0, 28, 1);
            is(x.rustled(NONE), 0);
        });
        test("rustled: sights of all clouds", x -> {
            x.cloud(1, 1, 0, 3, 3);
            x.cloud(1, 1, 0, 5, 5);
            x.sight(11, 45, 1);
            x.sight(11, 28, 1);
            same(row(x.rustled(NONE), x.rustled(0), x.rustled(10)), "11 1 201");
        });
        test("rustled: a flag over water or barred is one, too", x -> {
            x.cloud(1, 1, 0, 3, 3);
            x.put(27, 2, 1);
            x.sight(11, 27, 1);
            is(x.rustled(NONE), 44);
            x.put(27, 2, 0);
            is(x.rustled(NONE), 0);
            rule(x, "bars");
            is(x.rustled(NONE), 44);
        });
        test("rustled: flags as told count", x -> {
            x.cloud(1, 1, 0, 3, 3);
            x.flag(0, 0, 1);
            x.sight(2, 29, 1);
            same(row(x.rustled(NONE), x.rustled(0)), "1 21");
        });
        test("rustled: cloud 4 in direction 3", x -> {
            for (int i = 0; i < 5; i++) {
                x.cloud(1, 1, 0, i, i);
            }
            x.sight(1, 35, 1);
            same(row(x.rustled(NONE), x.rustled(0), x.rustled(1)), "2 14 19");
        });
        test("rustled: by the wind", x -> {
            x.cloud(1, 1, 0, 3, 3);
            x.wind(0, 1, 0);
            x.sight(3, 38, 1);
            same(row(x.rustled(NONE), x.rustled(0), x.rustled(2)), "3 2 42");
        });
        undisturbed("rustled", (x, n) -> 1000 * x.rustled(NONE) + x.rustled(4));
        fromCorner("rustled", x -> {
            x.sight(8, 63, 0);
            same(row(x.rustled(NONE), x.rustled(31)), "32 143");
        }, x -> {
            x.sight(8, 0, 0);
            same(row(x.rustled(NONE), x.rustled(31)), "32 143");
        });
    }

    private static void men() {
        test("men: without a flag none", x -> is(x.men(), 0));
        test("men: one flag, one man", x -> {
            x.cloud(1, 1, 0, 3, 3);
            x.flag(0, 0, 0);
            is(x.men(), 1);
        });
        test("men: eleven flags of one cloud, one man", x -> {
            x.cloud(1, 1, 0, -8, 3);
            for (int hour = 0; hour <= 10; hour++) {
                x.flag(hour, 0, 1);
            }
            is(x.men(), 1);
        });
        test("men: 24 flags of five clouds far apart", x -> {
            int[][] corners = {{-8, -8}, {15, -8}, {-8, 15}, {15, 15}, {3, 3}};
            for (int[] c : corners) {
                x.cloud(1, 1, 0, c[0], c[1]);
            }
            rule(x, "bars");
            for (int i = 0; i < 24; i++) {
                x.flag(i / 5, i % 5, 0);
            }
            is(x.men(), 5);
        });
        for (int hours : new int[] {2, 3}) {
            test("men: three steps in " + hours + " hours", x -> {
                x.cloud(1, 1, 0, 3, 3);
                x.cloud(1, 1, 0, 5, 4);
                x.flag(0, 0, 0);
                x.flag(hours, 1, 0);
                is(x.men(), hours == 3 ? 1 : 2);
            });
        }
        for (int hours : new int[] {9, 10}) {
            test("men: ten steps in " + hours + " hours", x -> {
                x.cloud(1, 1, 0, -8, -8);
                x.cloud(1, 1, 0, 2, -8);
                x.flag(0, 0, 0);
                x.flag(hours, 1, 0);
                is(x.men(), hours == 10 ? 1 : 2);
            });
        }
        test("men: not back in time", x -> {
            x.cloud(1, 1, 0, 3, 3);
            x.cloud(1, 1, 0, 6, 3);
            x.flag(5, 0, 0);
            x.flag(2, 1, 0);
            is(x.men(), 1);
            x.flag(4, 1, 1);
            is(x.men(), 2);
        });
        test("men: the same hour, the same corner", x -> {
            fiveClouds(x);
            x.flag(0, 0, 0);
            x.flag(0, 1, 1);
            is(x.men(), 1);
        });
        test("men: the same hour, the next corner", x -> {
            x.cloud(1, 1, 0, 3, 3);
            x.cloud(1, 1, 0, 3, 4);
            x.flag(0, 0, 0);
            x.flag(0, 1, 0);
            is(x.men(), 2);
        });
        test("men: at the corner of that hour", x -> {
            x.cloud(1, 1, 0, 0, 0);
            x.cloud(1, 1, 1, 3, 0);
            x.wind(1, -1, 0);
            x.flag(0, 0, 2);
            x.flag(2, 1, 2);
            is(x.men(), 1);
            x.wind(1, 0, 0);
            is(x.men(), 2);
        });
        test("men: gone ones need none", x -> {
            x.cloud(1, 1, 0, 15, 3);
            x.flag(0, 0, 1);
            is(x.men(), 1);
            x.flag(1, 0, 1);
            x.flag(10, 0, 1);
            is(x.men(), 1);
            x.wind(0, 1, 0);
            x.undo();
            x.undo();
            x.undo();
            x.flag(1, 0, 3);
            is(x.men(), 0);
        });
        test("men: flags that do not help need one, too", x -> {
            x.cloud(1, 1, 0, 3, 3);
            x.put(27, 2, 1);
            x.flag(0, 0, 1);
            is(x.men(), 1);
            rule(x, "bars");
            is(x.men(), 1);
        });
        test("men: the fewest, not the first that come to mind", x -> {
            x.cloud(1, 1, 0, 2, 0);
            x.cloud(1, 1, 0, 0, 0);
            x.cloud(1, 1, 0, 4, 0);
            rule(x, "bars");
            x.flag(0, 0, 0);
            x.flag(0, 1, 0);
            x.flag(2, 0, 0);
            x.flag(2, 2, 0);
            is(x.men(), 2);
        });
        test("men: one can't come from two", x -> {
            x.cloud(1, 1, 0, 0, 0);
            x.cloud(1, 1, 0, 4, 0);
            x.cloud(1, 1, 0, 2, 0);
            rule(x, "bars");
            x.flag(0, 0, 0);
            x.flag(0, 1, 0);
            x.flag(2, 2, 0);
            is(x.men(), 2);
        });
        test("men: the later flag may be told first", x -> {
            x.cloud(1, 1, 0, 0, 0);
            x.cloud(1, 1, 0, 2, 0);
            x.cloud(1, 1, 0, 4, 0);
            rule(x, "bars");
            x.flag(2, 1, 0);
            x.flag(2, 2, 0);
            x.flag(0, 1, 0);
            x.flag(0, 0, 0);
            is(x.men(), 2);
        });
        test("men: three give way, one behind another one", x -> {
            for (int i = 0; i < 4; i++) {
                x.cloud(1, 1, 0, 2 * i, 0);
            }
            rule(x, "bars");
            x.flag(0, 1, 0);
            x.flag(0, 2, 0);
            x.flag(0, 0, 0);
            x.flag(2, 1, 0);
            x.flag(2, 2, 0);
            x.flag(2, 3, 0);
            is(x.men(), 3);
        });
        undisturbed("men", (x, n) -> x.men());
    }

    private static void duel() {
        Body water = x -> {
            x.cloud(1, 1, 0, 3, 3);
            x.put(27, 2, 1);
        };
        asked("duel: cloud of one", 0, 0, NONE, ONE_CLOUD, (x, n) -> x.duel(n, 27, 0, 0));
        asked("duel: field", 0, 63, NONE, ONE_CLOUD, (x, n) -> x.duel(0, n, 0, 0));
        asked("duel: hour", 0, 11, NONE, ONE_CLOUD, (x, n) -> x.duel(0, 27, n, 0));
        asked("duel: what", 0, 1, NONE, water, (x, n) -> x.duel(0, 27, 1, n));
        test("duel: in hour 0 it is there or not, without a direction", x -> {
            x.cloud(1, 1, 0, 3, 3);
            same(row(x.duel(0, 27, 0, 0), x.duel(0, 27, 0, 1), x.duel(0, 28, 0, 0), x.duel(0, 28, 0, 1)), "1 -1 0 -1");
        });
        test("duel: in hour 1 the other one has the last word", x -> {
            x.cloud(1, 1, 0, 3, 3);
            same(row(x.duel(0, 27, 1, 0), x.duel(0, 27, 1, 1), x.duel(0, 28, 1, 0)), "0 -1 0");
        });
        test("duel: over water neither works, the lowest direction", x -> {
            water.run(x);
            same(row(x.duel(0, 27, 1, 0), x.duel(0, 27, 1, 1), x.duel(0, 27, 11, 0), x.duel(0, 27, 11, 1)), "1 0 1 0");
        });
        test("duel: none is the last direction", x -> {
            x.cloud(3, 3, 0, 2, 2);
            same(row(x.duel(0, 27, 1, 0), x.duel(0, 27, 1, 1)), "1 4");
        });
        test("duel: each edge of a 3 by 3 has its direction", x -> {
            x.cloud(3, 3, 0, 2, 2);
            same(row(x.duel(0, 19, 1, 1), x.duel(0, 28, 1, 1), x.duel(0, 35, 1, 1), x.duel(0, 26, 1, 1)), "0 1 2 3");
            same(row(x.duel(0, 18, 1, 0), x.duel(0, 20, 1, 0), x.duel(0, 34, 1, 0), x.duel(0, 36, 1, 0)), "0 0 0 0");
        });
        test("duel: in hour 11 the middle of a 3 by 3 can be held", x -> {
            x.cloud(3, 3, 0, 2, 2);
            same(row(x.duel(0, 27, 11, 0), x.duel(0, 27, 11, 1)), "1 4");
        });
        test("duel: both work by the corner at the beginning", x -> {
            x.cloud(3, 1, 0, 2, 3);
            x.put(19, 2, 1);
            x.put(28, 2, 1);
            is(x.duel(0, 27, 1, 0), 0);
        });
        test("duel: the wind goes as told, it does not veer", x -> {
            x.cloud(1, 1, 0, 3, 3);
            x.wind(0, 1, 0);
            x.put(27, 2, 1);
            x.terms(1, 10);
            same(row(x.duel(0, 28, 1, 0), x.duel(0, 35, 1, 0)), "1 0");
        });
        test("duel: flags as told do not count", x -> {
            x.cloud(3, 3, 0, 2, 2);
            x.flag(0, 0, 1);
            same(row(x.duel(0, 27, 1, 0), x.duel(0, 27, 1, 1)), "1 4");
        });
        test("duel: barred neither works", x -> {
            rule(x, "bars if hour=0");
            x.cloud(1, 1, 0, 3, 3);
            same(row(x.duel(0, 27, 1, 0), x.duel(0, 27, 1, 1), x.duel(0, 27, 2, 0)), "1 0 0");
        });
        test("duel: beyond the edge by both together alone", x -> {
            x.cloud(3, 1, 0, -1, -8);
            x.wind(0, 0, 1);
            is(x.duel(0, 0, 8, 0), 0);
            x.cloud(3, 3, 1, 15, 15);
            is(x.duel(1, 63, 11, 0), 0);
        });
        undisturbed("duel", (x, n) -> 10 * x.duel(1, 28, 2, 0) + x.duel(1, 28, 2, 1));
        undisturbed("duel that is long", (x, n) -> 10 * x.duel(1, 36, 8, 0) + x.duel(1, 36, 8, 1));
        fromCorner("duel", x -> {
            rule(x, "bars");
            same(row(x.duel(0, 63, 8, 0), x.duel(0, 63, 8, 1), x.duel(0, 62, 8, 0)), "1 0 0");
        }, x -> {
            rule(x, "bars");
            same(row(x.duel(0, 0, 8, 0), x.duel(0, 0, 8, 1), x.duel(0, 1, 8, 0)), "1 0 0");
        });
    }

    /** Those fields are scorched, if they are in the sun in that hour; others can't be. */
    private static void trap(ShadowHerds x, int hour, int... fields) {
        rule(x, "heats 0; cools 0; heats 9 if hour=" + hour);
        for (int field : fields) {
            x.put(field, 1, 8);
        }
    }

    private static void summer() {
        numbers("summer: seed", 0, 1000000, -1, NEW, (x, n) -> x.summer(n, 1));
        numbers("summer: n", 1, 30, -1, x -> x.summer(3, 2), (x, n) -> x.summer(0, n));
        test("summer: none is scorched", x -> is(x.summer(0, 30), 0));
        test("summer: all are scorched each day", x -> {
            rule(x, "heats 99");
            is(x.summer(0, 30), 1920);
            is(x.summer(0, 1), 64);
        });
        for (int veer : new int[] {5, 6}) {
            test("summer: seed 0 draws 5 first, veer " + veer, x -> {
                x.cloud(1, 1, 0, 3, 3);
                x.wind(0, 1, 0);
                x.terms(1, veer);
                trap(x, 1, 28, 35);
                is(x.summer(0, 1), 1);
                same(row(x.drawn(28), x.drawn(35)), veer == 5 ? "0 1" : "1 0");
            });
        }
        for (int veer : new int[] {6, 7}) {
            test("summer: seed 1000000 draws 6 first, veer " + veer, x -> {
                x.cloud(1, 1, 0, 3, 3);
                x.wind(0, 1, 0);
                x.terms(1, veer);
                trap(x, 1, 28, 35);
                is(x.summer(1000000, 1), 1);
                same(row(x.drawn(28), x.drawn(35)), veer == 6 ? "0 1" : "1 0");
            });
        }
        test("summer: veer 0 never turns", x -> {
            x.cloud(1, 1, 0, 3, 3);
            x.wind(0, 1, 0);
            x.terms(1, 0);
            trap(x, 1, 28, 35);
            x.summer(77, 30);
            same(row(x.drawn(28), x.drawn(35)), "0 30");
        });
        test("summer: veer 10 always turns", x -> {
            x.cloud(1, 1, 0, 3, 3);
            x.wind(0, 1, 0);
            x.terms(1, 10);
            trap(x, 1, 28, 35);
            x.summer(77, 30);
            same(row(x.drawn(28), x.drawn(35)), "30 0");
        });
        test("summer: the draws go on over the days, eleven a day", x -> {
            x.cloud(1, 1, 0, 3, 3);
            x.wind(0, 1, 0);
            x.terms(1, 6);
            trap(x, 1, 28, 35);
            is(x.summer(0, 2), 2);
            same(row(x.drawn(28), x.drawn(35)), "1 1");
        });
        test("summer: the 12th draw is the next day's first", x -> {
            x.cloud(1, 1, 0, 3, 3);
            x.wind(0, 1, 0);
            x.terms(1, 7);
            trap(x, 1, 28, 35);
            is(x.summer(0, 2), 2);
            same(row(x.drawn(28), x.drawn(35)), "2 0");
        });
        test("summer: the first cloud draws first, one without wind, too", x -> {
            x.cloud(1, 1, 0, 0, 0);
            x.cloud(1, 1, 1, 3, 3);
            x.wind(1, 1, 0);
            trap(x, 1, 28, 35);
            x.summer(0, 1);
            same(row(x.drawn(28), x.drawn(35)), "1 0");
        });
        test("summer: all clouds draw in an hour ahead of the next hour", x -> {
            x.cloud(1, 1, 0, 3, 3);
            x.cloud(1, 1, 1, 0, 0);
            x.wind(0, 1, 0);
            trap(x, 2, 29, 36);
            x.summer(0, 1);
            same(row(x.drawn(29), x.drawn(36)), "0 1");
        });
        test("summer: a cloud that is gone draws no more", x -> {
            x.cloud(1, 1, 0, 15, 15);
            x.cloud(1, 1, 1, 3, 3);
            x.wind(0, 1, 1);
            x.wind(1, 1, 0);
            trap(x, 3, 37, 44);
            x.summer(0, 1);
            same(row(x.drawn(37), x.drawn(44)), "0 1");
        });
        test("summer: flags as told count", x -> {
            x.cloud(1, 1, 0, 3, 3);
            x.flag(0, 0, 1);
            trap(x, 1, 28, 27);
            x.summer(0, 3);
            same(row(x.drawn(28), x.drawn(27)), "0 3");
        });
        test("summer: each day begins with clouds and heat as told", x -> {
            x.cloud(1, 1, 0, 3, 3);
            x.wind(0, 1, 0);
            trap(x, 0, 27, 28);
            x.put(28, 0, 8);
            x.put(0, 1, 17);
            x.put(0, 0, 8);
            x.summer(0, 30);
            same(row(x.drawn(27), x.drawn(28), x.drawn(0)), "0 30 0");
        });
        test("summer: scorched in hour 0 and in hour 12 alone", x -> {
            trap(x, 11, 0);
            x.put(1, 0, 99);
            x.put(1, 1, 98);
            is(x.summer(0, 2), 4);
        });
        test("summer: it is on paper, all is as it was", x -> {
            x.cloud(1, 1, 0, 3, 3);
            x.wind(0, 1, 0);
            x.flag(3, 0, 1);
            x.summer(9, 1);
            same(row(x.at(0, 11, 0), x.at(0, 11, 1), x.heat(0, 0), x.count(1), x.of(0, 3)), "15 3 0 1 3");
        });
        test("summer: a refused one leaves the latest", x -> {
            rule(x, "heats 99");
            x.summer(0, 7);
            x.summer(0, 31);
            x.summer(-1, 3);
            is(x.drawn(0), 7);
        });
        undisturbed("summer", (x, n) -> x.summer(9, 30));
        fromCorner("summer", x -> {
            trap(x, 8, 62, 63);
            x.summer(7, 3);
            same(row(x.drawn(62), x.drawn(63)), "3 0");
        }, x -> {
            trap(x, 8, 1, 0);
            x.summer(7, 3);
            same(row(x.drawn(1), x.drawn(0)), "3 0");
        });
    }

    private static void drawn() {
        asked("drawn: field", 0, 63, NONE, x -> x.summer(0, 1), (x, n) -> x.drawn(n));
        test("drawn: ahead of any summer", x -> is(x.drawn(0), NONE));
        test("drawn: after a refused one alone", x -> {
            x.summer(0, 0);
            is(x.drawn(0), NONE);
        });
        test("drawn: on no day, and on all 30", x -> {
            x.put(63, 1, 59);
            x.summer(0, 30);
            same(row(x.drawn(0), x.drawn(63)), "0 30");
        });
        test("drawn: of the latest alone", x -> {
            x.put(63, 1, 59);
            x.summer(0, 30);
            x.summer(0, 1);
            is(x.drawn(63), 1);
        });
        test("drawn: of the latest alone, field 0", x -> {
            x.put(0, 1, 59);
            x.summer(0, 30);
            x.summer(0, 1);
            is(x.drawn(0), 1);
        });
        test("drawn: it is kept, whatever comes then", x -> {
            x.put(63, 1, 59);
            x.image(0);
            x.summer(0, 4);
            x.put(63, 1, 60);
            x.back(0);
            is(x.drawn(63), 4);
        });
    }

    // ---- promises 44 to 47 ----

    private static void image() {
        numbers("image: k", 0, 1, -1, NEW, (x, n) -> x.image(n));
        test("image: it answers 0 each time", x -> same(row(x.image(0), x.image(0), x.image(1), x.image(1)), "0 0 0 0"));
        test("image: the two are apart", x -> {
            x.put(0, 0, 5);
            x.image(0);
            x.put(0, 0, 6);
            x.image(1);
            x.put(0, 0, 7);
            x.back(0);
            is(x.fact(0, 0), 5);
            x.back(1);
            is(x.fact(0, 0), 6);
        });
        test("image: kept again it is that of then", x -> {
            x.image(0);
            x.put(0, 0, 6);
            x.image(0);
            x.put(0, 0, 7);
            x.back(0);
            is(x.fact(0, 0), 6);
        });
        test("image: one of a plain with nothing", x -> {
            x.image(1);
            fiveClouds(x);
            allContracts(x);
            allSights(x);
            allLaws(x);
            x.flag(0, 0, 0);
            x.back(1);
            same(row(x.count(0), x.count(1), x.count(2), x.count(3), x.count(4)), "0 0 0 0 0");
        });
        test("image: one of a plain that is full", x -> {
            allFlags(x);
            x.cloud(3, 3, 2, 15, 15);
            x.cloud(3, 3, 2, -8, -8);
            allContracts(x);
            allSights(x);
            allLaws(x);
            x.image(0);
            x.undo();
            x.cancel();
            x.forget();
            x.back(0);
            same(row(x.count(0), x.count(1), x.count(2), x.count(3), x.count(4)), "5 24 8 10 6");
            same(row(x.flag(5, 2, 0), x.contract(0, 0, 0, 1, 1), x.sight(0, 0, 0), x.cloud(1, 1, 1, 1, 1)), "-5 -5 -5 -5");
        });
    }

    /** What is told ahead of image 0, what then, and what is seen of the first after going back. */
    private static void kept(String what, Body first, Body then, Ask seen) {
        test("back: " + what, x -> {
            first.run(x);
            long before = seen.of(x, 0);
            x.image(0);
            then.run(x);
            same(seen.of(x, 0) == before ? "not changed" : "changed", "changed");
            for (int i = 0; i < 2; i++) {
                is(x.back(0), 0);
                is(seen.of(x, 0), before);
                then.run(x);
            }
            x.back(0);
            is(seen.of(x, 0), before);
        });
    }

    /** What images do not keep. */
    private static void notKept(String what, Body then, Ask seen) {
        test("back: " + what, x -> {
            x.cloud(1, 1, 0, 3, 3);
            x.image(0);
            long before = seen.of(x, 0);
            then.run(x);
            long after = seen.of(x, 0);
            same(after == before ? "not changed" : "changed", "changed");
            is(x.back(0), 0);
            is(seen.of(x, 0), after);
        });
    }

    private static void back() {
        numbers("back: k", 0, 1, -1, x -> {
            x.image(0);
            x.image(1);
        }, (x, n) -> x.back(n));
        refused("back: image 0 was not kept", -2, x -> x.image(1), (x, n) -> x.back(0));
        refused("back: image 1 was not kept", -2, x -> x.image(0), (x, n) -> x.back(1));
        refused("back: a refused image was not kept", -2, x -> {
            x.image(2);
            x.image(-1);
        }, (x, n) -> x.back(0));
        for (int k : new int[] {-1, 2}) {
            refused("back: " + k + " can't be, ahead of not kept", -1, NEW, (x, n) -> x.back(k));
        }
        Body other = x -> x.cloud(2, 3, 2, 5, -6);
        for (int what = 0; what < 3; what++) {
            int k = what;
            kept("facts of fields, what " + what, x -> x.put(63, k, 1), x -> x.put(63, k, k == 2 ? 0 : 2), (x, n) -> x.fact(63, k));
        }
        kept("limits of rows", NEW, x -> rowOf(x, 7, 1, 2, 3, 4, 5, 6, 7, 8), (x, n) -> x.fact(63, 1));
        for (int layer = 0; layer < 3; layer++) {
            int k = layer;
            Body windy = x -> {
                x.cloud(1, 1, k, 3, 3);
                x.wind(k, 1, -1);
            };
            kept("the wind's x of layer " + layer, windy, x -> x.wind(k, -1, -1), (x, n) -> x.at(0, 2, 0));
            kept("the wind's y of layer " + layer, windy, x -> x.wind(k, 1, 1), (x, n) -> x.at(0, 2, 1));
        }
        kept("how many clouds", ONE_CLOUD, ONE_CLOUD, (x, n) -> x.count(0));
        for (int what = 0; what < 5; what++) {
            int k = what;
            test("back: facts of another cloud of the same number, what " + what, x -> {
                x.image(1);
                ONE_CLOUD.run(x);
                long before = x.of(0, k);
                x.image(0);
                x.back(1);
                other.run(x);
                same(x.of(0, k) == before ? "not changed" : "changed", "changed");
                x.back(0);
                is(x.of(0, k), before);
            });
        }
        Body flagged = x -> {
            x.cloud(1, 1, 0, 3, 3);
            x.flag(0, 0, 1);
        };
        kept("how many flags", flagged, x -> x.undo(), (x, n) -> x.count(1));
        kept("which flag", flagged, x -> {
            x.undo();
            x.flag(1, 0, 2);
        }, (x, n) -> x.at(0, 11, 0));
        kept("flags by drives", flagged, x -> drives(x, "flag 0 to 1 at 1 + run times 5"), (x, n) -> x.at(0, 11, 0));
        test("back: the order of flags", x -> {
            flagged.run(x);
            x.flag(5, 0, 1);
            x.image(0);
            x.undo();
            x.undo();
            x.flag(7, 0, 1);
            x.flag(8, 0, 1);
            x.flag(9, 0, 1);
            x.back(0);
            same(row(x.undo(), x.undo(), x.undo()), "5 0 -3");
        });
        Body hired = x -> x.contract(5, 2, 4, 1, 7);
        kept("how many contracts", hired, x -> x.cancel(), (x, n) -> x.count(2));
        kept("a contract's first hour", hired, x -> {
            x.cancel();
            x.contract(5, 3, 4, 1, 7);
        }, (x, n) -> x.broken(0));
        kept("a contract's is and fee", hired, x -> {
            x.cancel();
            x.contract(5, 2, 4, 0, 9);
        }, (x, n) -> x.judge(1));
        Body seen = x -> x.sight(0, 9, 1);
        kept("how many sights", seen, x -> x.forget(), (x, n) -> x.count(3));
        kept("a sight's field", seen, x -> {
            x.forget();
            x.sight(0, 10, 1);
        }, (x, n) -> x.stray(1, 1, 0, 0));
        kept("a sight's is", seen, x -> {
            x.forget();
            x.sight(0, 9, 0);
        }, (x, n) -> x.stray(1, 1, 0, NONE));
        for (int what = 0; what < 3; what++) {
            int k = what;
            kept("term " + what, x -> x.terms(k, 3), x -> x.terms(k, 4), (x, n) -> x.count(12 + k));
        }
        Body lawful = x -> rule(x, "worth 50");
        kept("how many laws", lawful, x -> law(x, "worth 60"), (x, n) -> x.count(4));
        kept("the law in force", lawful, x -> x.force(NONE), (x, n) -> x.asks(0, 0, 3));
        kept("none in force", x -> law(x, "worth 50"), x -> x.force(0), (x, n) -> x.asks(0, 0, 3));
        test("back: another law of the same number", x -> {
            x.image(1);
            lawful.run(x);
            x.image(0);
            x.back(1);
            rule(x, "worth 60");
            is(x.asks(0, 0, 3), 60);
            x.back(0);
            is(x.asks(0, 0, 3), 50);
            x.back(1);
            is(x.asks(0, 0, 3), 1);
            is(x.force(0), -2);
        });
        notKept("the tape is not kept", x -> x.feed(1, 2, 3, 4, 5), (x, n) -> x.count(5));
        notKept("the fault is not kept", x -> law(x, "bars 1"), (x, n) -> x.fault());
        notKept("the haze is not kept", x -> rowOf(x, 0, 0), (x, n) -> x.haze());
        notKept("where drives stopped is not kept", x -> drives(x, "flag 9 to 9 at 9"), (x, n) -> x.stopped());
        notKept("the latest summer is not kept", x -> x.summer(0, 5), (x, n) -> x.drawn(63));
        int[] slots = {6, 7, 8, 9, 10};
        for (int slot : slots) {
            notKept("refused calls are not kept, what " + slot, x -> {
                x.put(64, 0, 0);
                x.force(9);
                x.undo();
                x.row();
                fiveClouds(x);
                x.cloud(1, 1, 0, 0, 0);
            }, (x, n) -> x.count(slot));
        }
        test("back: the tape's bytes are left", x -> {
            tape(x, "worth 44");
            x.image(0);
            tape(x, "worth 55");
            x.back(0);
            is(x.law(), 0);
            x.force(0);
            is(x.asks(0, 0, 3), 55);
        });
        test("back: images stay, whatever is gone back to", x -> {
            x.put(0, 0, 1);
            x.image(0);
            x.put(0, 0, 2);
            x.image(1);
            for (int i = 0; i < 3; i++) {
                is(x.back(0), 0);
                is(x.fact(0, 0), 1);
                x.put(0, 0, 9);
                is(x.back(1), 0);
                is(x.fact(0, 0), 2);
            }
        });
        test("back: image 1 stays that was kept after the other one", x -> {
            x.image(0);
            x.image(1);
            x.back(0);
            is(x.back(1), 0);
        });
    }

    private static void count() {
        asked("count: what", 0, 14, NONE, NEW, (x, n) -> x.count(n));
        test("count: five clouds at most", x -> {
            fiveClouds(x);
            x.cloud(1, 1, 0, 0, 0);
            is(x.count(0), 5);
        });
        test("count: 24 flags at most", x -> {
            allFlags(x);
            x.flag(10, 2, 0);
            is(x.count(1), 24);
        });
        test("count: eight contracts at most", x -> {
            allContracts(x);
            x.contract(0, 0, 0, 0, 1);
            is(x.count(2), 8);
        });
        test("count: ten sights at most", x -> {
            allSights(x);
            x.sight(0, 0, 0);
            is(x.count(3), 10);
        });
        test("count: six laws at most", x -> {
            allLaws(x);
            law(x, "bars");
            is(x.count(4), 6);
        });
        test("count: 400 bytes at most", x -> {
            for (int i = 0; i < 21; i++) {
                x.feed(0, 0, 0, 0, 0);
            }
            is(x.count(5), 400);
        });
        test("count: law 0 in force and none", x -> {
            is(x.count(11), NONE);
            rule(x, "bars");
            is(x.count(11), 0);
        });
        test("count: law 5 in force", x -> {
            allLaws(x);
            x.force(5);
            is(x.count(11), 5);
        });
        test("count: the greatest terms", x -> {
            x.terms(0, 99);
            x.terms(1, 10);
            x.terms(2, 9);
            same(row(x.count(12), x.count(13), x.count(14)), "99 10 9");
        });
        test("count: refused calls by each reason", x -> {
            x.put(64, 0, 0);
            x.force(0);
            x.force(0);
            for (int i = 0; i < 3; i++) {
                x.undo();
            }
            fiveClouds(x);
            for (int i = 0; i < 4; i++) {
                x.cloud(1, 1, 0, 0, 0);
            }
            for (int i = 0; i < 5; i++) {
                x.row();
            }
            same(refusals(x), "1 2 3 4 5");
        });
        test("count: of two reasons the first alone", x -> {
            fiveClouds(x);
            x.cloud(0, 1, 0, 0, 0);
            x.flag(11, 9, 0);
            same(refusals(x), "2 0 0 0 0");
        });
        test("count: a call of drives is one, whatever its flags", x -> {
            drives(x, "flag 0 to 0 at 0; flag 9 to 9 at 9");
            drives(x, "flag 0 to 0 at 99");
            same(refusals(x), "0 0 2 0 0");
        });
        test("count: questions, feed and end are not refused", x -> {
            x.fact(64, 0);
            x.of(0, 0);
            x.end(1);
            x.asks(64, 0, 0);
            x.at(0, 0, 0);
            x.dark(12);
            x.heat(0, 13);
            x.scorched(64);
            x.broken(0);
            x.judge(2);
            x.drive(0, 0, 0, 0, NONE);
            x.pasture(0, 0, NONE);
            x.serve(0, 0);
            x.cross(0, 1, 0);
            x.part(0, 1);
            x.likely(0, 0, 0);
            x.surest(0, 0, 0);
            x.steer(0, 0, 1, 0, 0, 0);
            x.stray(0, 0, 0, 0);
            x.rustled(0);
            x.duel(0, 0, 0, 0);
            x.drawn(0);
            x.count(15);
            for (int i = 0; i < 21; i++) {
                x.feed(0, 0, 0, 0, 0);
            }
            same(refusals(x), "0 0 0 0 0");
            is(x.status(), 0);
        });
        test("count: what was not refused is none", x -> {
            x.put(0, 0, 0);
            x.cloud(1, 1, 0, 0, 0);
            x.flag(0, 0, 0);
            x.undo();
            law(x, "bars");
            x.force(0);
            x.image(0);
            x.back(0);
            same(refusals(x), "0 0 0 0 0");
        });
    }

    /** A call that can be refused, so and not so; both are seen by status(). */
    private static void told(String what, int why, Body bad, Body good) {
        Body ready = x -> {
            x.cloud(1, 1, 0, 3, 3);
            x.flag(10, 0, 0);
            x.image(0);
            tape(x, "");
        };
        test("status: " + what + " is refused", x -> {
            ready.run(x);
            is(x.status(), 0);
            bad.run(x);
            is(x.status(), why);
        });
        test("status: " + what + " is not refused", x -> {
            ready.run(x);
            x.put(64, 0, 0);
            is(x.status(), -1);
            good.run(x);
            is(x.status(), 0);
        });
    }

    private static void status() {
        test("status: 0 ahead of any", x -> is(x.status(), 0));
        told("put", -1, x -> x.put(0, 3, 0), x -> x.put(0, 0, 0));
        told("wind", -1, x -> x.wind(0, 2, 0), x -> x.wind(0, 0, 0));
        told("cloud", -1, x -> x.cloud(1, 1, 3, 0, 0), x -> x.cloud(1, 1, 0, 0, 0));
        told("flag", -2, x -> x.flag(0, 1, 0), x -> x.flag(0, 0, 0));
        told("undo", -3, x -> {
            x.undo();
            x.undo();
        }, x -> x.undo());
        told("contract", -1, x -> x.contract(0, 1, 0, 0, 1), x -> x.contract(0, 0, 0, 0, 1));
        told("terms", -1, x -> x.terms(1, 11), x -> x.terms(1, 1));
        told("row", -6, x -> x.row(), x -> rowOf(x, 0));
        told("law", -6, x -> x.law(), x -> law(x, "bars"));
        told("drives", -3, x -> drives(x, "flag 0 to 0 at 10"), x -> drives(x, "flag 0 to 0 at 9"));
        told("drives' text", -6, x -> x.drives(), x -> drives(x, "flag 0 to 0 at 9 if 1=2"));
        told("force", -2, x -> x.force(0), x -> x.force(NONE));
        told("sight", -1, x -> x.sight(12, 0, 0), x -> x.sight(11, 0, 0));
        told("summer", -1, x -> x.summer(0, 31), x -> x.summer(0, 1));
        told("image", -1, x -> x.image(2), x -> x.image(1));
        told("back", -2, x -> x.back(1), x -> x.back(0));
        told("a sixth cloud", -5, x -> {
            fiveClouds(x);
            x.cloud(1, 1, 0, 0, 0);
        }, x -> x.cloud(1, 1, 0, 0, 0));
        String[] others = {"fact", "of", "cancel", "feed", "end", "haze", "fault", "stopped", "asks", "at", "dark", "heat",
            "scorched", "broken", "judge", "drive", "pasture", "serve", "cross", "part", "likely", "surest", "steer", "forget",
            "stray", "rustled", "men", "duel", "drawn", "count", "status"};
        Body[] calls = {x -> x.fact(0, 0), x -> x.of(0, 0), x -> x.cancel(), x -> x.feed(0, 0, 0, 0, 0), x -> x.end(0), x -> x.haze(),
            x -> x.fault(), x -> x.stopped(), x -> x.asks(0, 0, 0), x -> x.at(0, 0, 0), x -> x.dark(0), x -> x.heat(0, 0),
            x -> x.scorched(NONE), x -> x.broken(0), x -> x.judge(0), x -> x.drive(0, 27, 0, 0, NONE), x -> x.pasture(0, 0, NONE),
            x -> x.serve(0, 0), x -> x.cross(0, 1, 0), x -> x.part(0, 1), x -> x.likely(0, 0, 0), x -> x.surest(0, 0, 0),
            x -> x.steer(0, 0, 1, 0, 0, 0), x -> x.forget(), x -> x.stray(1, 1, 0, NONE), x -> x.rustled(NONE), x -> x.men(),
            x -> x.duel(0, 0, 0, 0), x -> x.drawn(0), x -> x.count(0), x -> x.status()};
        for (int i = 0; i < others.length; i++) {
            Body call = calls[i];
            test("status: " + others[i] + " leaves it", x -> {
                x.cloud(1, 1, 0, 3, 3);
                x.contract(0, 0, 0, 1, 1);
                x.sight(0, 0, 0);
                x.force(0);
                call.run(x);
                is(x.status(), -2);
                same(refusals(x), "0 1 0 0 0");
            });
        }
        test("status: of the latest call alone", x -> {
            x.put(64, 0, 0);
            x.undo();
            is(x.status(), -3);
            x.force(0);
            is(x.status(), -2);
        });
    }

    // ---- all of them ----

    public static void main(String[] args) {
        Runnable[] all = {BoundaryTest::newObject, BoundaryTest::put, BoundaryTest::fact, BoundaryTest::wind, BoundaryTest::cloud,
            BoundaryTest::of, BoundaryTest::flag, BoundaryTest::undo, BoundaryTest::contract, BoundaryTest::cancel,
            BoundaryTest::terms, BoundaryTest::feed, BoundaryTest::end, BoundaryTest::row, BoundaryTest::haze, BoundaryTest::law,
            BoundaryTest::drives, BoundaryTest::fault, BoundaryTest::stopped, BoundaryTest::force, BoundaryTest::asks,
            BoundaryTest::at, BoundaryTest::dark, BoundaryTest::heat, BoundaryTest::scorched, BoundaryTest::broken,
            BoundaryTest::judge, BoundaryTest::drive, BoundaryTest::pasture, BoundaryTest::serve, BoundaryTest::cross,
            BoundaryTest::part, BoundaryTest::likely, BoundaryTest::surest, BoundaryTest::steer, BoundaryTest::sight,
            BoundaryTest::forget, BoundaryTest::stray, BoundaryTest::rustled, BoundaryTest::men, BoundaryTest::duel,
            BoundaryTest::summer, BoundaryTest::drawn, BoundaryTest::image, BoundaryTest::back, BoundaryTest::count,
            BoundaryTest::status};
        for (Runnable one : all) {
            int before = tests;
            promise++;
            one.run();
            if (tests == before) {
                failed++;
                System.out.println("promise " + promise + " has no test");
            }
        }
        if (promise != PROMISES) {
            failed++;
            System.out.println("there are tests of " + promise + " promises");
        }
        System.out.println(failed == 0 ? tests + " boundary tests hold" : failed + " of " + tests + " boundary tests do not hold");
        if (failed != 0) {
            System.exit(1);
        }
    }
}
