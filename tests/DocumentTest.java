import java.nio.file.Files;
import java.nio.file.Path;
import java.util.ArrayList;
import java.util.List;

/**
 * The document read from its first line: each sentence of the Terms and of the promises in its order and in its own
 * words, with calls on a new object that would answer otherwise if it did not hold. The answers are worked out by hand
 * from the text, but for the summers' draws, which a script of their own told.
 * {@code java DocumentTest DOC.md} tells also what of that document no test here quotes.
 */
public final class DocumentTest {
    private static final int NONE = ShadowHerds.NONE;
    private static final int NOTHING = ShadowHerds.NOTHING;
    private static final int UP = 0;
    private static final int RIGHT = 1;
    private static final int DOWN = 2;
    private static final int LEFT = 3;
    private static final int NO_FLAG = 4;
    private static final long CERTAIN = 1_000_000_000_000L;

    private static final List<String> quotes = new ArrayList<>();
    private static String quote = "";
    private static int answers = 0;
    private static int wrong = 0;
    private static ShadowHerds x = new ShadowHerds();

    public static void main(String[] args) throws Exception {
        termsOfPlains();
        termsOfTexts();
        termsOfLaws();
        termsOfDrives();
        termsOfHours();
        termsOfPaper();
        termsOfChances();
        termsOfWatches();
        termsOfSummers();
        promisesOfThePlain();
        promisesOfTheTape();
        promisesOfWhatIsTold();
        promisesOfPaper();
        promisesOfSights();
        promisesOfTheRest();
        if (args.length > 0) {
            tellGaps(Path.of(args[0]));
        }
        System.out.println(wrong == 0 ? quotes.size() + " sentences hold by " + answers + " answers"
            : wrong + " answers are not as the document says");
        if (wrong != 0) {
            System.exit(1);
        }
    }

    // ---- how a sentence is tested ----

    /** The calls that follow are of that sentence, and on a new object. */
    private static void says(String sentence) {
        quotes.add(sentence);
        quote = sentence;
        x = new ShadowHerds();
    }

    /** The same sentence on another new object. */
    private static void again() {
        x = new ShadowHerds();
    }

    private static void is(long got, long want) {
        answers++;
        if (got != want) {
            wrong++;
            StackTraceElement[] calls = new Throwable().getStackTrace();
            StringBuilder lines = new StringBuilder();
            for (int i = 1; i < calls.length - 2; i++) {
                lines.append(' ').append(calls[i].getLineNumber());
            }
            System.out.println("\"" + quote + "\" (lines" + lines + "): it is " + got + ", due is " + want);
        }
    }

    private static void tellGaps(Path document) throws Exception {
        String all = Files.readString(document);
        all = all.substring(all.indexOf("\nI. "), all.indexOf("## Not promised"));
        all = all.replaceAll("(?m)^(#.*|```.*)$", " ").replaceAll("(?m)^`[^`]*\\)`:", " ").replaceAll("\\s+", " ");
        int place = 0;
        for (String part : quotes) {
            int found = all.indexOf(part, place);
            if (found < 0) {
                System.out.println("no such sentence: " + part);
            } else {
                tellGap(all.substring(place, found));
                place = found + part.length();
            }
        }
        tellGap(all.substring(place));
    }

    private static void tellGap(String gap) {
        if (gap.matches(".*[A-Za-z0-9].*")) {
            System.out.println("not quoted: " + gap.trim());
        }
    }

    // ---- texts and rows ----

    private static void tape(String text) {
        x.end(0);
        for (int i = 0; i < text.length(); i += 20) {
            int[] five = new int[5];
            for (int k = 0; k < 20; k++) {
                five[k / 4] = five[k / 4] << 8 | (i + k < text.length() ? text.charAt(i + k) & 255 : 0);
            }
            x.feed(five[0], five[1], five[2], five[3], five[4]);
        }
        is(x.end(text.length()), text.length());
    }

    private static int law(String text) {
        tape(text);
        return x.law();
    }

    private static int drives(String text) {
        tape(text);
        return x.drives();
    }

    private static int row(int... bytes) {
        StringBuilder text = new StringBuilder();
        for (int b : bytes) {
            text.append((char) b);
        }
        tape(text.toString());
        return x.row();
    }

    /** The plain has that law in force. */
    private static void rule(String text) {
        int law = law(text);
        is(x.fault(), NONE);
        x.force(law);
        is(x.count(11), law);
    }

    private static void lawReads(String text) {
        again();
        is(law(text), 0);
        is(x.fault(), NONE);
    }

    private static void lawFaults(String text, int place) {
        again();
        is(law(text), -6);
        is(x.fault(), place);
        is(x.count(4), 0);
    }

    /** Drives on a new plain with one still cloud at 3, 5. */
    private static void drivesFault(String text, int place) {
        again();
        x.cloud(1, 1, 0, 3, 5);
        is(drives(text), -6);
        is(x.fault(), place);
        is(x.count(1), 0);
    }

    /** Drives on the plain as it is: the hours of the flags that they tell, in their order. */
    private static void drivesTell(String text, int... hours) {
        is(drives(text), hours.length);
        is(x.fault(), NONE);
        is(x.stopped(), NONE);
        undone(hours);
    }

    /** The flags told latest are of those hours, and are undone. */
    private static void undone(int... hours) {
        for (int i = hours.length - 1; i >= 0; i--) {
            is(x.undo(), hours[i]);
        }
    }

    /** What a sum tells; 1, if it is broken. */
    private static void worth(String sum, int want) {
        again();
        rule("worth " + sum);
        is(x.asks(0, 0, 3), want);
    }

    private static void so(String test, boolean want) {
        again();
        rule("worth 7 if " + test);
        is(x.asks(0, 0, 3), want ? 7 : 1);
    }

    private static String repeat(String part, int times) {
        return part.repeat(times);
    }

    /** All limits are 59: a field that is in the sun in all hours is scorched in hour 12, another one is not. */
    private static void lowLimits() {
        for (int y = 0; y < 8; y++) {
            is(row(y, 59, 59, 59, 59, 59, 59, 59, 59), 8);
        }
    }

    private static void still(int clouds) {
        for (int i = 0; i < clouds; i++) {
            is(x.cloud(1, 1, 0, 3, 3), i);
        }
    }

    /** Where a cloud's corner is in an hour. */
    private static void stands(int cloud, int hour, int atX, int atY) {
        is(x.at(cloud, hour, 0), atX);
        is(x.at(cloud, hour, 1), atY);
    }

    private static void isGone(int cloud, int hour) {
        for (int what = 0; what < 3; what++) {
            is(x.at(cloud, hour, what), NOTHING);
        }
    }

    // ---- Terms I ----

    private static void termsOfPlains() {
        says("I. FIELDS 0 .. 63 (8 y and x; x, y 0 .. 7):");
        is(x.cloud(1, 1, 0, 3, 5), 0);
        is(x.asks(43, 0, 0), 1);
        is(x.asks(29, 0, 0), 0);
        is(x.asks(63, 0, 0), 0);
        is(x.asks(64, 0, 0), NONE);
        is(x.asks(-1, 0, 0), NONE);
        is(x.dark(0), 1);

        says("HEAT 0 .. 99 at first (0),");
        is(x.heat(7, 0), 0);
        is(x.put(7, 0, 99), 0);
        is(x.put(7, 0, 100), -1);
        is(x.put(7, 0, -1), -1);
        is(x.fact(7, 0), 99);
        is(x.heat(7, 0), 99);
        is(x.heat(7, 1), 104);

        says("LIMIT 1 .. 999 (100),");
        is(x.fact(7, 1), 100);
        is(x.put(7, 1, 0), -1);
        is(x.put(7, 1, 1), 100);
        is(x.put(7, 1, 999), 1);
        is(x.put(7, 1, 1000), -1);
        is(x.fact(7, 1), 999);

        says("WATER or not (0).");
        is(x.fact(7, 2), 0);
        is(x.put(7, 2, 1), 0);
        is(x.put(7, 2, 2), -1);
        is(x.put(7, 2, 0), 1);

        says("HOURS 0 .. 11.");
        is(x.dark(0), 0);
        is(x.dark(11), 0);
        is(x.dark(-1), NONE);
        is(x.dark(12), NONE);

        says("CLOUDS 0 .. 4 (5 at most):");
        still(5);
        is(x.cloud(1, 1, 0, 3, 3), -5);
        is(x.of(4, 0), 1);
        is(x.of(5, 0), NOTHING);
        is(x.asks(27, 0, 0), 5);

        says("WIDE 1 .. 3, TALL 1 .. 3, a LAYER 0 .. 2;");
        is(x.cloud(3, 2, 2, 1, 1), 0);
        is(x.dark(0), 6);
        is(x.asks(11, 0, 0), 1);
        is(x.asks(12, 0, 0), 0);
        is(x.asks(17, 0, 0), 1);
        is(x.asks(25, 0, 0), 0);
        int[][] bad = {{0, 1, 0}, {4, 1, 0}, {1, 0, 0}, {1, 4, 0}, {1, 1, -1}, {1, 1, 3}};
        for (int[] b : bad) {
            is(x.cloud(b[0], b[1], b[2], 1, 1), -1);
        }
        is(x.count(0), 1);

        says("the CORNER (the lowest x, y of its shadow) at HOUR 0: x, y -8 .. 15.");
        is(x.cloud(3, 3, 0, -2, -2), 0);
        is(x.dark(0), 1);
        is(x.asks(0, 0, 0), 1);
        is(x.cloud(1, 1, 0, 15, -8), 1);
        is(x.cloud(1, 1, 0, -8, 15), 2);
        is(x.cloud(1, 1, 0, 16, 0), -1);
        is(x.cloud(1, 1, 0, -9, 0), -1);
        is(x.cloud(1, 1, 0, 0, 16), -1);
        is(x.cloud(1, 1, 0, 0, -9), -1);
        stands(1, 0, 15, -8);

        says("WINDS of LAYERS: x and y -1 .. 1 (0 at first).");
        is(x.cloud(1, 1, 1, 4, 4), 0);
        stands(0, 11, 4, 4);
        is(x.wind(1, -1, 1), 0);
        stands(0, 3, 1, 7);
        is(x.wind(1, 2, 0), -1);
        is(x.wind(1, 0, -2), -1);
        is(x.wind(3, 0, 0), -1);
        is(x.wind(0, 1, 1), 0);
        stands(0, 3, 1, 7);

        says("FLAGS, 24 at most: in an HOUR 0 .. 10 a CLOUD in a DIRECTION (0 up: y less 1, 1 right, 2 down, 3 left), one of a CLOUD in an HOUR.");
        still(3);
        for (int direction = 0; direction < 4; direction++) {
            is(x.flag(direction, 0, direction), direction + 1);
        }
        stands(0, 1, 3, 2);
        stands(0, 2, 4, 2);
        stands(0, 3, 4, 3);
        stands(0, 4, 3, 3);
        is(x.flag(0, 0, 1), -3);
        is(x.flag(11, 0, 0), -1);
        is(x.flag(-1, 0, 0), -1);
        is(x.flag(4, 0, 4), -1);
        is(x.flag(4, 0, -1), -1);
        for (int i = 4; i < 24; i++) {
            is(x.flag(i % 11, i / 11, UP), i + 1);
        }
        is(x.flag(2, 2, 0), -5);
        is(x.count(1), 24);

        says("CONTRACTS 0 .. 7 (8 at most): a FIELD from an HOUR till another one (not ahead) in shade (1) or in sun (0) all the time, a FEE 1 .. 99.");
        is(x.cloud(1, 1, 0, 0, 0), 0);
        x.wind(0, 1, 0);
        is(x.contract(3, 3, 3, 1, 99), 0);
        is(x.contract(3, 3, 4, 1, 1), 1);
        is(x.contract(3, 0, 2, 0, 5), 2);
        is(x.contract(3, 0, 3, 0, 5), 3);
        is(x.broken(0), NONE);
        is(x.broken(1), 4);
        is(x.broken(2), NONE);
        is(x.broken(3), 3);
        int[][] no = {{64, 3, 3, 1, 1}, {3, 4, 3, 1, 5}, {3, 0, 12, 1, 5}, {3, -1, 3, 1, 5}, {3, 3, 3, 2, 5}, {3, 3, 3, 1, 0}, {3, 3, 3, 1, 100}};
        for (int[] n : no) {
            is(x.contract(n[0], n[1], n[2], n[3], n[4]), -1);
        }
        for (int i = 4; i < 8; i++) {
            is(x.contract(63, 11, 11, 0, 1), i);
        }
        is(x.contract(63, 11, 11, 0, 1), -5);

        says("SIGHTS, 10 at most: in an HOUR a FIELD was dark (1) or was not (0).");
        is(x.sight(0, 0, 1), 1);
        is(x.stray(1, 1, 0, NONE), 1);
        is(x.stray(1, 1, 0, 0), 200);
        is(x.sight(11, 1, 0), 2);
        is(x.stray(1, 1, 0, NONE), 1);
        is(x.sight(11, 0, 0), 3);
        is(x.stray(1, 1, 0, NONE), 0);
        is(x.sight(12, 0, 0), -1);
        is(x.sight(0, 64, 0), -1);
        is(x.sight(0, 0, 2), -1);
        for (int i = 4; i <= 10; i++) {
            is(x.sight(0, 63, 0), i);
        }
        is(x.sight(0, 63, 0), -5);

        says("TERMS: 0 DAY 0 .. 99 (0 at first), 1 VEER 0 .. 10 (2), 2 MOOD 0 .. 9 (0).");
        int[] most = {99, 10, 9};
        int[] first = {0, 2, 0};
        for (int what = 0; what < 3; what++) {
            is(x.count(12 + what), first[what]);
            is(x.terms(what, most[what]), first[what]);
            is(x.terms(what, most[what] + 1), -1);
            is(x.terms(what, -1), -1);
            is(x.terms(what, 0), most[what]);
        }
        is(x.terms(3, 0), -1);
        is(x.terms(-1, 0), -1);

        says("REFUSED by: -1 a number that can't be; -2 there is no such CLOUD, LAW, IMAGE; -3 it can't be by what stands; -5 no room; -6 a TEXT, a ROW that can't be.");
        is(x.flag(11, 0, 0), -1);
        is(x.flag(0, 0, 0), -2);
        is(x.force(0), -2);
        is(x.back(1), -2);
        is(x.undo(), -3);
        is(x.row(), -6);
        is(law("frost"), -6);
        is(drives("frost"), -6);
        still(5);
        is(x.cloud(1, 1, 0, 3, 3), -5);

        says("The first of these in that order.");
        is(x.flag(11, 3, 0), -1);
        still(3);
        for (int i = 0; i < 24; i++) {
            is(x.flag(i % 11, i / 11, UP), i + 1);
        }
        is(x.flag(0, 3, 4), -1);
        is(x.flag(0, 3, 0), -2);
        is(x.flag(0, 0, 0), -3);
        is(x.flag(2, 2, 0), -5);
        is(x.cloud(1, 1, 0, 3, 3), 3);
        is(x.cloud(1, 1, 0, 3, 3), 4);
        is(x.cloud(1, 1, 0, 3, 16), -1);
        is(x.image(2), -1);
        is(x.back(2), -1);
    }

    // ---- Terms II: texts ----

    private static void termsOfTexts() {
        says("II. TEXTS are on a TAPE of at most 400 bytes.");
        for (int i = 1; i <= 20; i++) {
            is(x.feed(0x20202020, 0x20202020, 0x20202020, 0x20202020, 0x20202020), 20 * i);
        }
        is(x.feed(0, 0, 0, 0, 0), NONE);
        is(x.count(5), 400);
        is(law("worth" + repeat(" ", 394) + "7"), 0);
        x.force(0);
        is(x.asks(0, 0, 3), 7);

        says("TOKENS: longest rows of letters a .. z, of digits, single other bytes, any blanks (32) between.");
        lawReads("heats5;cools[1+2]*2;bars");
        lawReads("   heats   5   ;   cools   3   ");
        lawFaults("heats 1 0", 8);
        lawFaults("he ats 1", 0);
        lawFaults("Heats 1", 0);
        lawFaults("heatsx 1", 0);
        lawFaults("heats\t1", 5);
        lawFaults("heats 5x", 7);
        lawFaults("heats x5", 7);
        lawFaults("heats 5 ; ; bars", 10);

        says("Of both languages: CLAUSE {\";\" CLAUSE}, 12 at most (FAULT at the 13th's first TOKEN).");
        lawReads("bars" + repeat(";bars", 11));
        lawFaults("bars" + repeat(";bars", 12), 60);
        lawFaults("bars" + repeat(";bars", 11) + ";  ", 62);
        lawFaults("bars;", 5);
        lawFaults(";bars", 0);
        lawFaults("bars;;bars", 5);
        lawFaults("bars bars", 5);
        drivesFault("flag 0 to 0 at 0" + repeat(";flag 0 to 0 at 0", 12), 204);
        drivesFault("flag 0 to 0 at 0;", 17);

        says("TEST: BOTH {\"or\" BOTH}. BOTH: PLAIN {\"and\" PLAIN}. PLAIN: \"not\" PLAIN | \"(\" TEST \")\" | SUM (\"<\" | \">\" | \"=\") SUM.");
        so("1 = 1 or 1 = 1 and 1 = 2", true);
        so("1 = 2 and 1 = 1 or 1 = 1", true);
        so("( 1 = 1 or 1 = 1 ) and 1 = 2", false);
        so("not 1 = 2 and 1 = 2", false);
        so("not ( 1 = 2 and 1 = 2 )", true);
        so("not not 1 = 1", true);
        so("not not not 1 = 1", false);
        so("1 < 2", true);
        so("2 < 2", false);
        so("3 > 2", true);
        so("2 > 2", false);
        so("2 = 2", true);
        so("[ 1 ] + 1 < 1 + [ 2 ]", true);
        lawFaults("bars if 1", 9);
        lawFaults("bars if 1 < 2 < 3", 14);
        lawFaults("bars if ( 1 ) < 2", 12);
        lawFaults("bars if [ 1 < 2 ]", 12);
        lawFaults("bars if 1 < not 2", 12);
        lawFaults("bars if and 1 = 1", 8);
        lawFaults("bars if 1 = 1 or", 16);

        says("SUM: TERM {(\"+\" | \"-\") TERM}. TERM: PART {(\"*\" | \"/\" | \"%\") PART}. PART: NUMBER (to 1,000) | \"[\" SUM \"]\" | a word, as told.");
        worth("2 + 3 * 4", 14);
        worth("20 - 5 - 3", 12);
        worth("20 / 3 * 2", 12);
        worth("20 * 3 / 7", 8);
        worth("17 % 10 % 4", 3);
        worth("[ 2 + 3 ] * 4", 20);
        worth("50 - [ 20 - 5 ]", 35);
        worth("1000 - 993", 7);
        worth("0007", 7);
        worth("hour + 6", 6);
        lawFaults("worth 1001", 6);
        lawFaults("worth 99999999999999999999", 6);
        lawFaults("worth - 1", 6);
        lawFaults("worth ( 1 )", 6);
        lawFaults("worth 1 +", 9);
        lawFaults("worth [ 1", 9);

        says("50 PARTS that are NUMBERS and words (FAULT at the 51st), 8 brackets of both kinds within one another (FAULT at the 9th) at most.");
        lawReads("worth 1" + repeat("+1", 49));
        lawFaults("worth 1" + repeat("+1", 50), 106);
        lawReads("worth 1" + repeat("+1", 24) + ";cools x" + repeat("+x", 24));
        lawFaults("worth 1" + repeat("+1", 24) + ";cools x" + repeat("+x", 25), 112);
        lawReads("worth " + repeat("[", 8) + "1" + repeat("]", 8));
        lawFaults("worth " + repeat("[", 9) + "1" + repeat("]", 9), 14);
        lawReads("bars if ((((" + "[[[[1]]]]=1))))");
        lawFaults("bars if ((((" + "[[[[[1]]]]]=1))))", 16);
        lawFaults("bars if (((((((((1=1)))))))))", 16);
        lawReads("worth [1]" + repeat("+[1]", 12));

        says("FAULT: the first TOKEN that can't go on there (the end's: the TEXT's length).");
        lawFaults("", 0);
        lawFaults("   ", 3);
        lawFaults("heats", 5);
        lawFaults("heats   ", 8);
        lawFaults("heats 5 if", 10);
        lawFaults("heats 5 cools 3", 8);
        lawFaults("bars 5", 5);
        lawFaults("frost 5", 0);
        lawFaults("heats hours", 6);
        lawFaults("heats 5 if 1 = 1 )", 17);
        drivesFault("", 0);
        drivesFault("flag 0 to 0 at 0 if 1 = 1 ;  ", 29);

        says("Beyond 1,000,000,000 either way, or divided by 0 (/ cut towards 0, % what is left then), a SUM, a TEST is BROKEN");
        worth("1000 * 1000 * 1000 / 1000 / 1000 / 100", 10);
        worth("[ 1000 * 1000 * 1000 + 1 ] / 1000 / 1000 / 100", 1);
        worth("0 - 1000 * 1000 * 1000 + 1000 * 1000 * 1000 + 7", 7);
        worth("0 - 1000 * 1000 * 1000 - 1 + 1000 * 1000 * 1000 + 8", 1);
        worth("1000 * 1000 * 1000 * 1000 / 1000 / 1000 / 1000 / 100", 1);
        worth("7 / 0", 1);
        worth("7 % 0", 1);
        worth("[ 0 - 7 ] / 2 + 10", 7);
        worth("[ 0 - 7 ] % 2 + 10", 9);
        worth("7 / [ 0 - 2 ] + 10", 7);
        worth("7 % [ 0 - 2 ] + 10", 11);
        so("1 / 0 = 1", false);
        so("not 1 / 0 = 1", false);

        says("(\"or\", \"and\" ask what stands behind only if it can still matter; a part that was asked and is BROKEN makes all of it BROKEN).");
        so("1 = 1 or 1 / 0 = 1", true);
        so("not ( 1 = 2 and 1 / 0 = 1 )", true);
        so("1 = 1 or 1 = 1 and 1 / 0 = 1", true);
        so("1 = 2 and 1 / 0 = 1 or 1 = 1", true);
        so("( 1 = 1 or 1 / 0 = 1 ) and 1 = 1", true);
        so("1 = 2 and 1 = 1 and 1 / 0 = 1 or 1 = 1 or 1 / 0 = 1", true);
        so("1 = 2 or 1 / 0 = 1", false);
        so("not ( 1 = 2 or 1 / 0 = 1 )", false);
        so("1 / 0 = 1 or 1 = 1", false);
        so("not ( 1 / 0 = 1 and 1 = 2 )", false);
        so("not ( 1 = 1 and 1 / 0 = 1 )", false);
        so("1 = 1 and 1 / 0 = 1 or 1 = 1", false);
    }

    // ---- Terms II: laws ----

    private static void termsOfLaws() {
        says("LAWS, 6 at most; one is in FORCE (NONE at first: no CLAUSE):");
        is(x.count(11), NONE);
        for (int i = 0; i < 6; i++) {
            is(law("worth 10 + " + i), i);
        }
        is(law("worth 20"), -5);
        is(x.count(4), 6);
        is(x.asks(0, 0, 3), 1);
        is(x.force(2), NONE);
        is(x.asks(0, 0, 3), 12);
        is(x.force(5), 2);
        is(x.asks(0, 0, 3), 15);
        is(x.force(6), -2);
        is(x.force(NONE), 5);
        is(x.asks(0, 0, 3), 1);

        says("CLAUSE: ((\"heats\" | \"cools\" | \"worth\") SUM | \"bars\") [\"if\" TEST].");
        lawReads("heats 1");
        lawReads("cools 1 if 1 = 1");
        lawReads("worth 1");
        lawReads("bars");
        lawReads("bars if 1 = 1");
        lawFaults("bars 1", 5);
        lawFaults("heats if 1 = 1", 6);
        lawFaults("flag 0 to 0 at 0", 0);
        lawFaults("bars if 1 = 1 if 1 = 1", 14);

        says("Words: \"x\" | \"y\" | \"hour\" | \"cloud\" | \"layer\" | \"shade\" | \"day\" | \"mood\".");
        for (String word : new String[] {"x", "y", "hour", "cloud", "layer", "shade", "day", "mood"}) {
            lawReads("worth " + word);
        }
        for (String word : new String[] {"clouds", "flags", "last", "done", "run", "left 0 0", "top 0 0", "wide", "heats", "if"}) {
            lawFaults("worth " + word, 6);
        }

        says("\"heats\", \"cools\" are asked of a FIELD in an HOUR (shade: by how many CLOUDS; cloud, layer -1),");
        x.terms(0, 3);
        x.terms(2, 4);
        x.cloud(1, 1, 0, 2, 5);
        x.cloud(1, 1, 0, 2, 5);
        rule("heats x * 10 + y; cools shade * 20 + hour + cloud + layer + day + mood");
        is(x.asks(42, 6, 1), 25);
        is(x.asks(42, 6, 2), 51);
        is(x.asks(43, 6, 1), 35);
        is(x.asks(43, 6, 2), 11);

        says("\"worth\" of a FIELD in an HOUR (cloud, layer, shade -1),");
        x.cloud(1, 1, 0, 2, 5);
        rule("worth x * 10 + y + hour + cloud + layer + shade");
        is(x.asks(42, 6, 3), 28);
        is(x.asks(43, 11, 3), 43);

        says("\"bars\" of a CLOUD in an HOUR (x, y: its CORNER; shade -1).");
        x.terms(0, 3);
        x.terms(2, 4);
        x.cloud(1, 1, 2, -3, 9);
        x.cloud(2, 2, 2, -3, 9);
        rule("bars if x + 3 = 0 and y = 9 and hour = 4 and cloud = 1 and layer = 2 and shade + 1 = 0 and day = 3 and mood = 4");
        is(x.at(1, 4, 2), 1);
        is(x.at(1, 5, 2), 0);
        is(x.at(0, 4, 2), 0);
        x.terms(2, 5);
        is(x.at(1, 4, 2), 0);

        says("A CLAUSE HOLDS, if its \"if\" (if it has one) is so, and neither that nor its SUM is BROKEN.");
        rule("worth 9; worth 8 if 1 = 2; worth 7 if 1 / 0 = 1; worth 1 / 0");
        is(x.asks(0, 0, 3), 9);
        rule("worth 9; worth 8 if hour > 3");
        is(x.asks(0, 3, 3), 9);
        is(x.asks(0, 4, 3), 8);

        says("In the sun a FIELD HEATS by what the last \"heats\" that HOLDS tells, 0 .. 99 (else the nearest), 5 without;");
        is(x.asks(0, 0, 1), 5);
        is(x.heat(0, 2), 10);
        rule("heats 7; heats 9 if hour = 1; heats 0 - 4 if hour = 2; heats 100 if hour = 3");
        is(x.asks(0, 0, 1), 7);
        is(x.asks(0, 1, 1), 9);
        is(x.asks(0, 2, 1), 0);
        is(x.asks(0, 3, 1), 99);
        is(x.heat(0, 4), 115);
        rule("heats 7 if hour = 1; cools 8; worth 9");
        is(x.heat(0, 2), 12);

        says("in shade it COOLS by what \"cools\" tells, 0 .. 99, 3 without;");
        x.cloud(1, 1, 0, 0, 0);
        x.put(0, 0, 99);
        is(x.heat(0, 1), 96);
        rule("cools 10 if hour = 0; cools 500 if hour = 2; cools 0 - 1 if hour = 3");
        is(x.asks(0, 0, 2), 10);
        is(x.asks(0, 1, 2), 3);
        is(x.asks(0, 2, 2), 99);
        is(x.asks(0, 3, 2), 0);
        is(x.heat(0, 1), 89);
        is(x.heat(0, 2), 86);
        is(x.heat(0, 3), 0);

        says("its shade is WORTH what \"worth\" tells, 0 .. 99, 1 without;");
        x.cloud(1, 1, 0, 0, 0);
        is(x.pasture(0, 0, NONE), 12);
        rule("worth 100 if hour = 0; worth 0 - 1 if hour = 1");
        is(x.asks(0, 0, 3), 99);
        is(x.asks(0, 1, 3), 0);
        is(x.asks(0, 2, 3), 1);
        is(x.pasture(0, 0, NONE), 109);

        says("a CLOUD is BARRED, if \"bars\" HOLDS.");
        x.cloud(1, 1, 0, 3, 3);
        x.flag(0, 0, RIGHT);
        x.flag(1, 0, RIGHT);
        rule("bars if hour = 0; bars if hour = 2; bars if 1 / 0 = 1");
        is(x.at(0, 0, 2), 1);
        is(x.at(0, 1, 2), 0);
        is(x.at(0, 2, 2), 1);
        stands(0, 1, 3, 3);
        stands(0, 2, 4, 3);
        rule("bars");
        stands(0, 11, 3, 3);
    }

    // ---- Terms II: drives ----

    private static void termsOfDrives() {
        says("DRIVES: CLAUSE: (\"flag\" SUM \"to\" SUM) \"at\" SUM [\"each\" SUM] [\"times\" TIMES] [\"if\" TEST]. (a CLOUD, a DIRECTION.)");
        still(2);
        is(drives("flag 1 to 2 at 4"), 1);
        stands(0, 5, 3, 3);
        stands(1, 5, 3, 4);
        drivesTell("flag 0 to 1 at 3 each 2 times 2 if 1 = 1", 3, 5);
        drivesTell("flag 0 to 1 at 3 times 1", 3);
        drivesTell("flag 0 to 1 at 3 each 2 if 1 = 1", 3);
        drivesFault("flag 0 at 0 to 1", 7);
        drivesFault("flag 0 to 1", 11);
        drivesFault("flag 0 to 1 at 2 times 2 each 1", 25);
        drivesFault("flag 0 to 1 at 2 if 1 = 1 times 2", 26);
        drivesFault("heats 5", 0);
        drivesFault("flag (0) to 1 at 2", 5);

        says("TIMES: a NUMBER 1 .. 20.");
        still(1);
        drivesTell("flag 0 to 1 at 9 times 20 if run < 1", 9);
        drivesTell("flag 0 to 1 at 9 times 01", 9);
        drivesFault("flag 0 to 1 at 9 times 0", 23);
        drivesFault("flag 0 to 1 at 9 times 21", 23);
        drivesFault("flag 0 to 1 at 9 times run", 23);
        drivesFault("flag 0 to 1 at 9 times 1 + 1", 25);
        drivesFault("flag 0 to 1 at 9 times", 22);

        says("Words: \"clouds\" | \"flags\" | \"last\" | \"done\" | \"run\" | \"day\" | \"left\" C H | \"top\" C H");
        still(1);
        drivesTell("flag clouds - 1 to flags % 4 at last + 1 each day + 1 times 2 if done < 9 and run < 9 and left 0 0 = 3 and top 0 0 = 3", 0, 2);
        x.terms(0, 8);
        drivesTell("flag 0 to 0 at day", 8);
        for (String word : new String[] {"x", "y", "hour", "cloud", "layer", "shade", "mood", "to"}) {
            drivesFault("flag " + word + " to 0 at 0", 5);
        }

        says("(C: a NUMBER 0 .. 4, H: 0 .. 11).");
        drivesFault("flag left 5 0 to 0 at 0", 10);
        drivesFault("flag left 0 12 to 0 at 0", 12);
        drivesFault("flag left 0 to 0 at 0", 12);
        drivesFault("flag top clouds 0 to 0 at 0", 9);
        again();
        still(1);
        is(drives("flag left 4 11 - top 4 11 to 0 at 0"), 1);

        says("C, H, TIMES aside, NUMBERS and words count as PARTS.");
        still(1);
        is(drives("flag 0" + repeat("*top0 0", 47) + " to 0 at 0 times 1"), 1);
        drivesFault("flag 0" + repeat("*top0 0", 48) + " to 0 at 0 times 1", 351);

        says("Run CLAUSE by CLAUSE, each as often as TIMES tell (once without): each time its \"if\" is asked (not run, if it is not so or BROKEN), then its SUMS: the FLAG is told in the HOUR \"at\" tells and as many \"each\" (0 without) more as that CLAUSE was run ahead.");
        still(1);
        drivesTell("flag 0 to 1 at 1; flag 0 to 1 at 7; flag 0 to 1 at 4", 1, 7, 4);
        drivesTell("flag 0 to 1 at 1 each 3 times 3", 1, 4, 7);
        drivesTell("flag 0 to 1 at 5 each 0 - 2 times 3", 5, 3, 1);
        drivesTell("flag 0 to 1 at 1 each 3 times 3; flag 0 to 1 at 0 each 2 times 2", 1, 4, 7, 0, 2);
        drivesTell("flag 0 to 1 at 5 if 1 = 2");
        drivesTell("flag 0 to 1 at 5 if 1 / 0 = 1; flag 0 to 1 at 6", 6);
        drivesTell("flag 1 / 0 to 9 at 99 if 1 = 2");
        drivesTell("flag 0 to 1 at 3 times 5 if run = 1");
        is(drives("flag 0 to 1 at 5 times 2"), -3);

        says("flags: how many are told then;");
        still(1);
        x.flag(9, 0, UP);
        drivesTell("flag 0 to 0 at flags times 3", 1, 2, 3);

        says("last: the HOUR of the FLAG told last in this TEXT (-1: none);");
        still(1);
        x.flag(5, 0, UP);
        drivesTell("flag 0 to 0 at last + 1; flag 0 to 0 at last + 3; flag 0 to 0 at last - 1", 0, 3, 2);
        drivesTell("flag 0 to 0 at last + 2", 1);

        says("done: how many were told in it;");
        still(1);
        x.flag(9, 0, UP);
        drivesTell("flag 0 to 0 at done + 2 times 2; flag 0 to 0 at done + 4; flag 0 to 0 at 0 if done < 3", 2, 3, 6);

        says("run: how often this CLAUSE was;");
        still(1);
        drivesTell("flag 0 to 0 at run + 2 times 2; flag 0 to 0 at run", 2, 3, 0);

        says("left, top: x, y of a CLOUD's CORNER in an HOUR as all are told then (100: no such, it is GONE).");
        x.cloud(1, 1, 0, 3, 5);
        is(drives("flag 0 to 1 at 0; flag 0 to 2 at left 0 1; flag 0 to 0 at top 0 5 if left 3 0 = 100 and top 1 11 = 100"), 3);
        undone(0, 4, 6);
        x.cloud(1, 1, 1, 15, -8);
        x.wind(1, 1, -1);
        drivesTell("flag 0 to 0 at 9 if left 1 1 = 100 and top 1 1 = 100 and left 1 0 = 15 and top 1 0 + 8 = 0", 9);

        says("One that can't be told (a BROKEN SUM, as flag() is REFUSED) ends it: all is as it was ahead of it.");
        still(1);
        x.flag(3, 0, RIGHT);
        String[] bad = {"flag 0 to 0 at 3", "flag 0 to 1 / 0 at 5", "flag 0 % 0 to 0 at 5", "flag 0 to 0 at 1 / 0", "flag 0 to 0 at 5 each 1 / 0",
            "flag 0 to 4 at 5", "flag 0 to 0 - 1 at 5", "flag 1 to 0 at 5", "flag 0 - 1 to 0 at 5", "flag 0 to 0 at 11", "flag 0 to 0 at 10 each 1 times 2"};
        for (String b : bad) {
            is(drives("flag 0 to 0 at 0; " + b + "; flag 0 to 0 at 1"), -3);
            is(x.stopped(), 1);
            is(x.count(1), 1);
            stands(0, 11, 4, 3);
        }
    }

    // ---- Terms III: from hour to hour ----

    private static void termsOfHours() {
        says("III. From HOUR to HOUR a CLOUD's CORNER goes by the WIND of its LAYER, and one step more by a FLAG of that HOUR, but not if its CORNER is over WATER then, or the CLOUD is BARRED.");
        x.cloud(1, 1, 0, 2, 2);
        x.wind(0, 1, 0);
        x.flag(1, 0, DOWN);
        x.flag(3, 0, RIGHT);
        stands(0, 1, 3, 2);
        stands(0, 2, 4, 3);
        stands(0, 4, 7, 3);
        x.put(19, 2, 1);
        stands(0, 2, 4, 2);
        stands(0, 4, 7, 2);
        rule("bars if hour = 3");
        stands(0, 4, 6, 2);
        x.cloud(2, 2, 1, 6, 6);
        x.put(55, 2, 1);
        x.put(62, 2, 1);
        x.flag(0, 1, UP);
        stands(1, 1, 6, 5);
        x.put(54, 2, 1);
        stands(1, 1, 6, 6);

        says("Beyond -8 .. 15 it is GONE for good.");
        x.wind(0, 1, 0);
        x.cloud(1, 1, 0, 14, 0);
        stands(0, 1, 15, 0);
        isGone(0, 2);
        isGone(0, 11);
        x.cloud(1, 1, 0, 15, 0);
        x.flag(0, 1, LEFT);
        stands(1, 1, 15, 0);
        x.flag(1, 1, LEFT);
        stands(1, 2, 15, 0);
        isGone(1, 3);
        again();
        x.wind(0, 1, 1);
        x.cloud(1, 1, 0, 15, -8);
        is(x.likely(0, 23, 10), 3_686_400);
        int[][] ends = {{-8, 0, LEFT}, {15, 0, RIGHT}, {0, -8, UP}, {0, 15, DOWN}};
        for (int[] end : ends) {
            again();
            x.cloud(1, 1, 0, end[0], end[1]);
            x.flag(0, 0, end[2]);
            x.flag(1, 0, (end[2] + 2) % 4);
            stands(0, 0, end[0], end[1]);
            isGone(0, 1);
            isGone(0, 2);
        }

        says("Its SHADOW are the FIELDS x .. x and WIDE less 1, y .. y and TALL less 1 that there are.");
        x.cloud(3, 2, 0, 6, -1);
        is(x.dark(0), 2);
        is(x.asks(6, 0, 0), 1);
        is(x.asks(7, 0, 0), 1);
        is(x.asks(0, 0, 0), 0);
        is(x.asks(8, 0, 0), 0);

        says("HEAT of the next HOUR is HEAT more by what a FIELD HEATS (in the sun), less by what it COOLS (in shade; 0 at least).");
        x.cloud(1, 1, 0, 1, 0);
        x.wind(0, 1, 0);
        is(x.heat(2, 1), 5);
        is(x.heat(2, 2), 2);
        is(x.heat(2, 3), 7);
        is(x.heat(1, 1), 0);
        is(x.heat(1, 2), 5);

        says("SCORCHED is a FIELD of which HEAT is above LIMIT in some HOUR 0 .. 12.");
        x.put(0, 1, 60);
        x.put(1, 1, 59);
        x.put(2, 0, 50);
        x.put(2, 1, 49);
        x.put(3, 0, 50);
        x.put(3, 1, 49);
        x.put(4, 0, 50);
        x.put(4, 1, 50);
        x.cloud(2, 1, 0, 3, 0);
        is(x.scorched(NONE), 3);
        is(x.scorched(0), 1);
        is(x.scorched(1), 2);
        is(x.scorched(2), 3);

        says("A CONTRACT is BROKEN in the first of its HOURS in which it is not as told.");
        x.cloud(1, 1, 0, 0, 0);
        x.wind(0, 1, 0);
        int[][] terms = {{1, 4, 1, 1}, {2, 4, 1, 3}, {0, 4, 0, 2}, {3, 11, 0, NONE}, {2, 2, 1, NONE}, {0, 11, 1, 0}};
        for (int i = 0; i < terms.length; i++) {
            is(x.contract(2, terms[i][0], terms[i][1], terms[i][2], 5), i);
            is(x.broken(i), terms[i][3]);
        }
    }

    // ---- Terms III: on paper ----

    private static void termsOfPaper() {
        says("(What follows is on paper: FLAGS of that CLOUD as told do not count; as many as one likes of it, one in an HOUR, 4: none.)");
        still(3);
        for (int i = 0; i < 24; i++) {
            is(x.flag(i % 11, i / 11, RIGHT), i + 1);
        }
        stands(0, 1, 4, 3);
        is(x.drive(0, 27, 0, 11, NONE), 0);
        is(x.drive(0, 27, 0, 11, 5), NO_FLAG);
        is(x.drive(0, 31, 4, 4, NONE), 4);
        is(x.drive(0, 31, 3, 4, NONE), NONE);
        is(x.pasture(0, 0, NONE), 12);
        is(x.contract(27, 0, 11, 1, 9), 0);
        is(x.serve(0, 0), 9);
        is(x.surest(0, 27, 11), CERTAIN);
        is(x.duel(0, 27, 0, 0), 1);
        is(x.count(1), 24);

        says("A DRIVE: a CLOUD shades a FIELD from an HOUR till another one: the fewest FLAGS, by which HOUR 0 .. till less 1; the first as a row of DIRECTIONS by HOURS (none last).");
        still(1);
        is(x.drive(0, 36, 4, 5, NONE), 2);
        int[] row = {RIGHT, DOWN, NO_FLAG, NO_FLAG, NO_FLAG, NONE};
        for (int hour = 0; hour < row.length; hour++) {
            is(x.drive(0, 36, 4, 5, hour), row[hour]);
        }
        is(x.drive(0, 36, 2, 2, NONE), 2);
        is(x.drive(0, 3, 2, 2, NONE), NONE);
        is(x.drive(0, 3, 2, 2, 0), NONE);
        is(x.drive(0, 3, 3, 3, NONE), 3);
        x.put(28, 2, 1);
        is(x.drive(0, 36, 4, 5, 0), DOWN);
        is(x.drive(0, 36, 4, 5, 1), RIGHT);
        x.cloud(3, 1, 1, 5, 5);
        x.wind(1, -1, 0);
        is(x.drive(1, 44, 0, 3, NONE), NONE);
        is(x.drive(1, 44, 1, 3, NONE), 0);
        is(x.drive(1, 44, 1, 5, NONE), 2);
        is(x.drive(1, 44, 1, 5, 0), NO_FLAG);

        says("PASTURE: by at most n FLAGS the most WORTH of all FIELDS that CLOUD shades in all HOURS (others aside); the first as a row.");
        still(2);
        rule("worth 10 if x = 4 and y = 3; worth 0 if x = 3");
        is(x.pasture(0, 0, NONE), 0);
        is(x.pasture(0, 1, NONE), 110);
        is(x.pasture(0, 1, 0), RIGHT);
        is(x.pasture(0, 1, 1), NO_FLAG);
        is(x.pasture(0, 11, NONE), 110);
        is(x.pasture(0, 11, 10), NO_FLAG);
        rule("worth 5 if [ x - 3 ] * [ x - 3 ] + [ y - 3 ] * [ y - 3 ] = 1; worth 0 if x = 3 and y = 3");
        is(x.pasture(0, 1, NONE), 55);
        is(x.pasture(0, 1, 0), UP);
        rule("worth 2 if hour = 6 and x = 3 and y = 4");
        is(x.pasture(0, 1, NONE), 13);
        is(x.pasture(0, 1, 0), DOWN);

        says("To SERVE: CONTRACTS for shade of which one CLOUD (others aside) can keep all: the most FEES together, the lowest as bits.");
        still(1);
        x.contract(28, 1, 1, 1, 5);
        x.contract(26, 1, 1, 1, 5);
        x.contract(0, 0, 11, 0, 99);
        x.contract(27, 0, 0, 1, 2);
        x.contract(63, 0, 0, 1, 50);
        is(x.serve(0, 0), 7);
        is(x.serve(0, 1), 9);
        x.cloud(3, 3, 0, 7, 7);
        is(x.serve(0, 0), 7);
        is(x.serve(1, 0), 50);
        is(x.serve(1, 1), 16);

        says("To PART two CLOUDS: the fewest FLAGS of the first by which no FIELD is in both SHADOWS in any HOUR (the other one as told).");
        x.cloud(1, 1, 0, 2, 3);
        x.cloud(1, 1, 1, 0, 3);
        x.cloud(2, 2, 0, 1, 2);
        x.wind(1, 1, 0);
        is(x.part(0, 1), 1);
        is(x.part(1, 0), 1);
        is(x.part(0, 2), NONE);
        x.flag(0, 1, UP);
        is(x.part(0, 1), 0);
        is(x.part(1, 0), 1);
        is(x.part(1, 2), 1);

        says("CROSSING: in the first HOUR in which two SHADOWS have FIELDS in common, how many.");
        x.cloud(3, 3, 0, 0, 0);
        x.cloud(2, 2, 1, 6, 1);
        x.wind(1, -1, 0);
        is(x.cross(0, 1, 0), 4);
        is(x.cross(0, 1, 1), 2);
        is(x.cross(1, 0, 1), 2);
        x.cloud(3, 3, 0, -3, -3);
        x.cloud(3, 3, 0, -3, -3);
        is(x.cross(2, 3, 0), NONE);
        is(x.cross(2, 3, 1), NONE);
    }

    // ---- Terms III: chances ----

    private static void termsOfChances() {
        says("VEER: each HOUR the WIND of a CLOUD goes as told, but in VEER of ten turned (x becomes less y, y becomes x), by itself.");
        still(1);
        int[][] winds = {{1, 0, 28, 35}, {0, 1, 35, 26}, {-1, 0, 26, 19}, {0, -1, 19, 28}, {1, 1, 36, 34}};
        for (int[] wind : winds) {
            x.wind(0, wind[0], wind[1]);
            is(x.likely(0, wind[2], 1), 800_000_000_000L);
            is(x.likely(0, wind[3], 1), 200_000_000_000L);
            is(x.likely(0, 27, 1), 0);
        }
        x.terms(1, 10);
        is(x.likely(0, 36, 1), 0);
        is(x.likely(0, 34, 1), CERTAIN);
        is(x.likely(0, 41, 2), CERTAIN);

        says("CHANCES, of 1,000,000,000,000: that a CLOUD (FLAGS as told; WATER, BARS by where it is) shades a FIELD in an HOUR.");
        still(1);
        x.wind(0, 1, 0);
        x.terms(1, 3);
        x.put(28, 2, 1);
        x.flag(1, 0, DOWN);
        is(x.likely(0, 27, 0), CERTAIN);
        is(x.likely(0, 29, 2), 490_000_000_000L);
        is(x.likely(0, 36, 2), 210_000_000_000L);
        is(x.likely(0, 44, 2), 210_000_000_000L);
        is(x.likely(0, 51, 2), 90_000_000_000L);
        is(x.likely(0, 37, 2), 0);
        x.put(28, 2, 0);
        rule("bars if y = 4");
        is(x.likely(0, 37, 2), 490_000_000_000L);
        is(x.likely(0, 44, 2), 210_000_000_000L);
        is(x.likely(0, 36, 2), 210_000_000_000L);
        is(x.likely(0, 43, 2), 90_000_000_000L);

        says("The SUREST drive: FLAGS by where it is in each HOUR, ahead of the WIND: the greatest CHANCE; the first DIRECTION from a CORNER in an HOUR (the lowest, none last).");
        still(1);
        x.wind(0, 1, 0);
        is(x.surest(0, 28, 1), 800_000_000_000L);
        is(x.steer(0, 28, 1, 0, 3, 3), NO_FLAG);
        is(x.surest(0, 36, 1), 800_000_000_000L);
        is(x.steer(0, 36, 1, 0, 3, 3), DOWN);
        is(x.surest(0, 29, 2), 800_000_000_000L);
        is(x.steer(0, 29, 2, 0, 3, 3), UP);
        is(x.steer(0, 29, 2, 1, 4, 2), DOWN);
        is(x.steer(0, 29, 2, 1, 3, 3), RIGHT);
        is(x.steer(0, 29, 2, 1, 5, 3), LEFT);
        is(x.steer(0, 29, 2, 1, 4, 3), NO_FLAG);
        x.flag(0, 0, DOWN);
        is(x.surest(0, 29, 2), 800_000_000_000L);
        x.put(27, 2, 1);
        is(x.surest(0, 29, 2), 640_000_000_000L);

        says("STRAYS: a CLOUD of told WIDE, TALL, LAYER, without FLAGS (BARS do not matter), at HOUR 0 somewhere -8 .. 15: CORNERS (24 times y and 8, and x and 8) by which all SIGHTS are so of it alone.");
        x.wind(1, 1, 0);
        x.sight(2, 28, 1);
        is(x.stray(2, 1, 1, NONE), 2);
        is(x.stray(2, 1, 1, 0), 273);
        is(x.stray(2, 1, 1, 1), 274);
        is(x.stray(1, 3, 1, NONE), 3);
        is(x.stray(1, 3, 1, 0), 24 * 9 + 10);
        x.sight(2, 29, 0);
        is(x.stray(2, 1, 1, NONE), 1);
        is(x.stray(2, 1, 1, 0), 273);
        is(x.stray(2, 1, 0, 0), 275);
        x.cloud(3, 3, 1, 3, 3);
        x.flag(0, 0, DOWN);
        rule("bars");
        is(x.stray(2, 1, 1, NONE), 1);
        x.forget();
        is(x.stray(3, 3, 2, NONE), 576);
        is(x.stray(3, 3, 2, 575), 575);
    }

    // ---- Terms III: rustlers, men, duels ----

    private static void termsOfWatches() {
        says("RUSTLERS: one FLAG more of a CLOUD that has none in that HOUR (beyond 24, too; as HOUR times 20, CLOUD times 4, DIRECTION) by which all SIGHTS are so of all CLOUDS.");
        x.cloud(1, 1, 0, 0, 0);
        x.cloud(1, 1, 0, 3, 3);
        x.sight(2, 28, 1);
        is(x.rustled(NONE), 2);
        is(x.rustled(0), 5);
        is(x.rustled(1), 25);
        x.sight(1, 28, 0);
        is(x.rustled(NONE), 1);
        is(x.rustled(0), 25);
        x.flag(1, 1, RIGHT);
        is(x.rustled(NONE), 80);
        is(x.rustled(79), 207);
        x.undo();
        x.flag(1, 1, UP);
        is(x.rustled(NONE), 0);
        x.undo();
        x.cloud(1, 1, 0, 7, 7);
        x.cloud(1, 1, 0, 7, 7);
        for (int i = 0; i < 24; i++) {
            is(x.flag(i % 11, i < 11 ? 0 : i < 22 ? 2 : 3, i % 2 * 2), i + 1);
        }
        is(x.rustled(NONE), 1);
        is(x.rustled(0), 25);

        says("MEN: each FLAG as told needs a man at the CLOUD's CORNER of that HOUR (GONE ones need none); from one to another one he comes by as many steps (|x| and |y|) as HOURS lie between, or fewer: the fewest men.");
        x.cloud(1, 1, 0, 0, 0);
        x.cloud(1, 1, 0, 2, 1);
        x.cloud(1, 1, 0, 7, 7);
        x.cloud(1, 1, 1, 15, 15);
        x.wind(1, 1, 0);
        is(x.men(), 0);
        x.flag(0, 0, UP);
        is(x.men(), 1);
        x.flag(3, 1, UP);
        is(x.men(), 1);
        x.flag(10, 2, UP);
        is(x.men(), 2);
        x.flag(4, 3, UP);
        is(x.men(), 2);
        x.flag(0, 3, UP);
        is(x.men(), 3);
        again();
        x.cloud(1, 1, 0, 0, 0);
        x.cloud(1, 1, 0, 2, 1);
        x.flag(0, 0, UP);
        x.flag(2, 1, UP);
        is(x.men(), 2);

        says("A DUEL: in each HOUR one flags a CLOUD (or none), then another one, knowing that (both work, as one FLAG does, each by the CORNER at the beginning of that HOUR), then the WIND: whether the first can have it shade a FIELD in an HOUR, whatever the other does; the DIRECTION to begin with.");
        still(1);
        is(x.duel(0, 27, 0, 0), 1);
        is(x.duel(0, 28, 0, 0), 0);
        is(x.duel(0, 27, 1, 0), 0);
        x.cloud(3, 3, 0, 2, 2);
        is(x.duel(1, 27, 1, 0), 1);
        is(x.duel(1, 27, 1, 1), NO_FLAG);
        is(x.duel(1, 19, 1, 0), 1);
        is(x.duel(1, 19, 1, 1), UP);
        is(x.duel(1, 18, 1, 0), 0);
        is(x.duel(1, 18, 1, 1), NONE);
        is(x.duel(1, 27, 2, 1), NO_FLAG);
        x.put(18, 2, 1);
        is(x.duel(1, 18, 1, 0), 1);
        is(x.duel(1, 18, 1, 1), UP);
        is(x.duel(1, 17, 1, 0), 0);
        x.put(18, 2, 0);
        x.wind(0, 1, 0);
        is(x.duel(1, 28, 1, 1), NO_FLAG);
        is(x.duel(1, 27, 1, 1), LEFT);
        x.flag(0, 1, RIGHT);
        is(x.duel(1, 27, 1, 1), LEFT);
    }

    // ---- Terms IV ----

    private static void termsOfSummers() {
        says("IV. A SUMMER with a SEED, n days 1 .. 30, on paper: s is the SEED (0 .. 1,000,000); a DRAW of m: s becomes (s times 1103 and 12345) modulo 1,000,003, it is s modulo m.");
        x.cloud(1, 1, 0, 7, 0);
        x.wind(0, 0, 1);
        x.terms(1, 4);
        lowLimits();
        is(x.summer(7, 1), 56);
        int[] dark = {7, 15, 23, 31, 39, 47, 55, 63};
        for (int field : dark) {
            is(x.drawn(field), 0);
        }
        is(x.drawn(14), 1);
        is(x.summer(7, 0), -1);
        is(x.summer(7, 31), -1);
        is(x.summer(-1, 1), -1);
        is(x.summer(1_000_001, 1), -1);
        is(x.drawn(14), 1);
        is(x.summer(1_000_000, 30) > 0 ? 1 : 0, 1);
        is(x.dark(7), 1);
        stands(0, 7, 7, 7);

        says("Each day all CLOUDS begin as told; in each HOUR 0 .. 10 for each CLOUD that is not GONE a DRAW of 10: below VEER its WIND is turned.");
        x.cloud(1, 1, 0, 15, 0);
        x.cloud(1, 1, 1, 7, 0);
        x.wind(0, 1, 0);
        x.wind(1, 0, 1);
        x.terms(1, 4);
        lowLimits();
        is(x.summer(0, 1), 52);
        int[] first = {7, 6, 14, 22, 21, 20, 19, 18, 26, 34, 42, 50};
        for (int field : first) {
            is(x.drawn(field), 0);
        }
        is(x.summer(0, 2), 104);
        is(x.drawn(22), 0);
        is(x.drawn(14), 1);
        is(x.drawn(15), 1);
        is(x.drawn(18), 1);
        is(x.drawn(0), 2);
        is(x.summer(5, 1), 52);
        is(x.drawn(31), 0);
        is(x.drawn(14), 1);

        says("How many FIELDS are SCORCHED each day (from HEAT as told at first), all together.");
        x.cloud(1, 1, 0, 7, 0);
        x.wind(0, 0, 1);
        x.terms(1, 4);
        lowLimits();
        is(x.summer(7, 2), 108);
        is(x.summer(7, 3), 162);
        is(x.drawn(7), 0);
        is(x.drawn(15), 2);
        is(x.drawn(22), 1);
        is(x.drawn(0), 3);
        x.put(7, 0, 60);
        is(x.summer(7, 3), 165);

        says("A ROW: the TAPE's first byte is y, then LIMITS (1 .. 255) from x 0 on; others leave a FIELD as it was; those and bytes beyond x 7 are HAZE.");
        is(row(3, 1, 0, 255, 9), 3);
        is(x.haze(), 1);
        int[] limits = {1, 100, 255, 9, 100};
        for (int i = 0; i < limits.length; i++) {
            is(x.fact(24 + i, 1), limits[i]);
        }
        is(row(7, 1, 2, 3, 4, 5, 6, 7, 8, 9, 0), 8);
        is(x.haze(), 2);
        is(x.fact(63, 1), 8);
        is(row(8, 1), -6);
        is(row(5), 0);
        is(x.haze(), 0);

        says("IMAGES 0, 1 keep all but the TAPE, FAULT, HAZE, where DRIVES stopped, the latest SUMMER; BACK to one all that it keeps is as it was then (IMAGES stay).");
        change(1);
        x.image(0);
        seen(1);
        change(2);
        x.image(1);
        seen(2);
        row(0, 0, 7, 0);
        drives("flag 0 to 0 at 10; flag 0 to 0 at 10");
        law("bars 7");
        x.summer(3, 3);
        x.feed(0, 0, 0, 0, 0);
        for (int k : new int[] {0, 0, 1, 0}) {
            x.back(k);
            seen(k + 1);
            is(x.count(5), 20);
            is(x.fault(), 5);
            is(x.haze(), 2);
            is(x.stopped(), 1);
            is(x.drawn(20), 3);
        }
    }

    /** A plain that differs by n in all that images keep; from the first state on to the second one. */
    private static void change(int n) {
        x.put(5, 0, n);
        x.put(5, 1, 5 + n);
        x.put(20, 1, 1);
        x.put(5, 2, n % 2);
        x.wind(0, n - 1, 1);
        x.cloud(1, 1, 0, n, 0);
        x.flag(n, 0, DOWN);
        x.contract(6, 0, 0, 1, n);
        x.sight(0, n, 1);
        for (int what = 0; what < 3; what++) {
            x.terms(what, 2 + n + what);
        }
        x.force(law("worth 20 + " + n));
    }

    private static void seen(int n) {
        int[] counts = {n, n, n, n, n};
        for (int what = 0; what < counts.length; what++) {
            is(x.count(what), counts[what]);
        }
        is(x.fact(5, 0), n);
        is(x.fact(5, 1), 5 + n);
        is(x.fact(5, 2), n % 2);
        is(x.of(n - 1, 3), n);
        is(x.of(n, 3), NOTHING);
        stands(0, 3, n == 1 ? 1 : 4, n == 1 ? 4 : 5);
        is(x.count(11), n - 1);
        is(x.asks(0, 0, 3), 20 + n);
        for (int what = 0; what < 3; what++) {
            is(x.count(12 + what), 2 + n + what);
        }
        is(x.stray(2, 1, 0, NONE), n == 1 ? 2 : 1);
    }

    // ---- the constants, promises 1 .. 11 ----

    private static void refusedBy(int why, long got) {
        is(got, why);
        is(x.status(), why);
    }

    private static void promisesOfThePlain() {
        says("The constants: `NONE = -1`: There is none.");
        is(ShadowHerds.NONE, -1);
        says("`NOTHING = -1000`: What is not there, where it could be below 0.");
        is(ShadowHerds.NOTHING, -1000);

        says("A plain without clouds.");
        is(x.count(0), 0);
        is(x.of(0, 0), NOTHING);
        is(x.dark(5), 0);
        is(x.status(), 0);

        says("HEAT (what 0), LIMIT (1), WATER (2) of a FIELD: what it was. -1.");
        is(x.put(63, 0, 9), 0);
        is(x.put(63, 0, 8), 9);
        is(x.put(63, 1, 9), 100);
        is(x.put(63, 2, 1), 0);
        refusedBy(-1, x.put(63, 3, 0));
        refusedBy(-1, x.put(63, -1, 0));
        refusedBy(-1, x.put(64, 0, 0));

        says("Of a FIELD 0 .. 2 as for put(). NONE.");
        x.put(8, 0, 3);
        x.put(8, 1, 4);
        x.put(8, 2, 1);
        is(x.fact(8, 0), 3);
        is(x.fact(8, 1), 4);
        is(x.fact(8, 2), 1);
        is(x.fact(8, 3), NONE);
        is(x.fact(8, -1), NONE);
        is(x.fact(64, 0), NONE);
        is(x.fact(-1, 0), NONE);

        says("A WIND of a LAYER: 0. -1.");
        is(x.wind(2, 1, -1), 0);
        refusedBy(-1, x.wind(-1, 0, 0));
        refusedBy(-1, x.wind(2, -2, 0));
        is(x.wind(2, -1, 1), 0);
        is(x.status(), 0);

        says("A CLOUD: its number. -1; -5.");
        still(5);
        refusedBy(-5, x.cloud(1, 1, 0, 0, 0));
        refusedBy(-1, x.cloud(1, 1, 3, 0, 0));
        is(x.count(0), 5);

        says("Of a CLOUD WIDE (what 0), TALL (1), LAYER (2), x (3), y (4) at HOUR 0. NOTHING.");
        x.cloud(3, 2, 1, -7, 6);
        x.wind(1, 1, 1);
        int[] facts = {3, 2, 1, -7, 6};
        for (int what = 0; what < 5; what++) {
            is(x.of(0, what), facts[what]);
        }
        is(x.of(0, 5), NOTHING);
        is(x.of(0, -1), NOTHING);
        is(x.of(1, 0), NOTHING);
        is(x.of(-1, 0), NOTHING);

        says("A FLAG: how many there are. -1; -2; -3 (that CLOUD has one in that HOUR); -5.");
        refusedBy(-2, x.flag(0, 0, 0));
        still(3);
        is(x.flag(4, 1, LEFT), 1);
        is(x.flag(4, 0, LEFT), 2);
        refusedBy(-3, x.flag(4, 1, UP));
        refusedBy(-1, x.flag(11, 1, UP));
        refusedBy(-2, x.flag(4, 3, UP));
        is(x.undo(), 4);
        is(x.undo(), 4);
        for (int i = 0; i < 24; i++) {
            is(x.flag(i % 11, i / 11, UP), i + 1);
        }
        refusedBy(-5, x.flag(10, 2, UP));

        says("The FLAG told latest (by DRIVES, too) is undone: its HOUR. -3 there is none.");
        still(1);
        x.flag(6, 0, RIGHT);
        drives("flag 0 to 1 at 2; flag 0 to 1 at 1");
        is(x.undo(), 1);
        is(x.undo(), 2);
        stands(0, 11, 4, 3);
        is(x.undo(), 6);
        stands(0, 11, 3, 3);
        refusedBy(-3, x.undo());

        says("A CONTRACT: its number. -1; -5.");
        for (int i = 0; i < 8; i++) {
            is(x.contract(0, 0, 11, 0, 99), i);
        }
        refusedBy(-5, x.contract(0, 0, 11, 0, 99));
        refusedBy(-1, x.contract(0, 0, 11, 0, 100));

        says("CONTRACTS are none then: how many there were.");
        is(x.cancel(), 0);
        x.contract(0, 0, 11, 0, 99);
        x.contract(0, 0, 11, 0, 98);
        is(x.judge(1), 197);
        is(x.cancel(), 2);
        is(x.count(2), 0);
        is(x.judge(1), 0);
        is(x.contract(0, 0, 11, 0, 99), 0);

        says("A TERM: what it was. -1.");
        is(x.terms(1, 7), 2);
        is(x.terms(1, 3), 7);
        refusedBy(-1, x.terms(1, 11));
        is(x.terms(1, 3), 3);
    }

    // ---- promises 12 .. 20 ----

    private static void promisesOfTheTape() {
        says("Twenty bytes come behind the TAPE, four of each number, the highest first: how many it has. NONE, if there would be more than 400.");
        is(x.feed(0x01020304, 0x05060708, 0x090a0b0c, -1, 0), 20);
        is(x.row(), 8);
        for (int i = 0; i < 8; i++) {
            is(x.fact(8 + i, 1), 2 + i);
        }
        is(x.haze(), 11);
        is(x.feed(0, 0, 0, 0, 0), 20);
        is(x.feed(0, 0, 0, 0, 0), 40);
        for (int i = 3; i <= 20; i++) {
            is(x.feed(0, 0, 0, 0, 0), 20 * i);
        }
        is(x.feed(0, 0, 0, 0, 0), NONE);
        is(x.end(381), 381);
        is(x.feed(0, 0, 0, 0, 0), NONE);
        is(x.count(5), 381);
        is(x.end(380), 380);
        is(x.feed(0, 0, 0, 0, 0), 400);

        says("The TAPE has its first n bytes alone: n. NONE, if it has not so many, or n is below 0.");
        x.feed(0x02030405, 0, 0, 0, 0);
        is(x.end(21), NONE);
        is(x.end(-1), NONE);
        is(x.count(5), 20);
        is(x.end(3), 3);
        is(x.end(4), NONE);
        is(x.row(), 2);
        is(x.fact(17, 1), 4);
        is(x.fact(18, 1), 100);
        is(x.end(1), NONE);
        is(x.end(0), 0);

        says("A ROW, the TAPE is empty then: how many LIMITS were told. -6 the TAPE is empty, no such y.");
        refusedBy(-6, x.row());
        is(row(0, 0, 0, 5), 1);
        is(x.count(5), 0);
        is(x.fact(2, 1), 5);
        refusedBy(-6, row(8, 9));
        refusedBy(-6, row(255, 9));
        is(x.count(5), 0);

        says("How much HAZE the latest row() had that was not REFUSED (0 ahead of any).");
        is(x.haze(), 0);
        is(row(0, 0, 0, 5), 1);
        is(x.haze(), 2);
        refusedBy(-6, row(9, 0));
        is(x.haze(), 2);
        is(row(0, 5), 1);
        is(x.haze(), 0);

        says("The TAPE, which is empty then, becomes a LAW: its number. -5 (ahead of reading it; the TAPE is empty then, too); -6 (blanks alone: FAULT at the end).");
        refusedBy(-6, law("  "));
        is(x.fault(), 2);
        for (int i = 0; i < 6; i++) {
            is(law("bars"), i);
            is(x.count(5), 0);
        }
        is(x.fault(), NONE);
        refusedBy(-5, law("bars 1"));
        is(x.fault(), NONE);
        is(x.count(5), 0);
        is(x.count(4), 6);

        says("DRIVES are run, the TAPE is empty then: how many FLAGS were told. -3 one can't be; -5 one has no room; -6 (as for law()).");
        still(3);
        is(drives("flag 0 to 0 at 0 each 1 times 11; flag 1 to 0 at 0 each 1 times 11"), 22);
        is(x.count(5), 0);
        refusedBy(-5, drives("flag 2 to 0 at 0 each 1 times 3"));
        is(x.count(1), 22);
        refusedBy(-3, drives("flag 2 to 0 at 0; flag 1 to 0 at 5"));
        refusedBy(-3, drives("flag 2 to 0 at 0; flag 3 to 0 at 5"));
        refusedBy(-6, drives("   "));
        is(x.fault(), 3);
        is(x.count(5), 0);
        is(drives("flag 2 to 0 at 0 each 1 times 2"), 2);

        says("FAULT of the latest law(), drives() that read a TEXT: its place; NONE without.");
        is(x.fault(), NONE);
        law("bars 1");
        is(x.fault(), 5);
        row(0, 0);
        is(x.fault(), 5);
        drives("flag");
        is(x.fault(), 4);
        drives("flag 0 to 0 at 0");
        is(x.status(), -3);
        is(x.fault(), NONE);

        says("Which CLAUSE of the latest drives() could not be. NONE.");
        is(x.stopped(), NONE);
        still(1);
        drives("flag 0 to 0 at 0; flag 0 to 0 at 1; flag 0 to 0 at 1");
        is(x.stopped(), 2);
        law("bars");
        is(x.stopped(), 2);
        drives("flag 0 to 0 at 0");
        is(x.stopped(), NONE);

        says("A LAW is in FORCE (NONE: none): which was. -2.");
        law("heats 6");
        law("heats 7");
        is(x.asks(0, 0, 1), 5);
        is(x.force(1), NONE);
        is(x.asks(0, 0, 1), 7);
        is(x.force(0), 1);
        refusedBy(-2, x.force(2));
        refusedBy(-2, x.force(-2));
        is(x.asks(0, 0, 1), 6);
        is(x.force(NONE), 0);
        is(x.asks(0, 0, 1), 5);
    }

    // ---- promises 21 .. 27 ----

    private static void promisesOfWhatIsTold() {
        says("Of a FIELD in an HOUR by how many CLOUDS it is shaded (what 0), what it HEATS (1), COOLS (2) by, as it is shaded then, its WORTH (3). NONE.");
        still(2);
        x.wind(0, 1, 0);
        rule("heats 10 + shade; cools 20 + shade; worth 30 + hour");
        int[][] all = {{2, 12, 22, 30}, {0, 10, 20, 31}};
        for (int hour = 0; hour < 2; hour++) {
            for (int what = 0; what < 4; what++) {
                is(x.asks(27, hour, what), all[hour][what]);
            }
        }
        is(x.asks(27, 0, 4), NONE);
        is(x.asks(27, 0, -1), NONE);
        is(x.asks(27, 12, 0), NONE);
        is(x.asks(27, -1, 0), NONE);
        is(x.asks(64, 0, 0), NONE);

        says("x (what 0), y (1) of a CLOUD's CORNER in an HOUR 0 .. 11; whether a FLAG would not help then (2: 1 BARRED, 2 over WATER, 0). NOTHING (GONE, too).");
        x.cloud(1, 1, 0, 4, 6);
        x.wind(0, 1, -1);
        stands(0, 2, 6, 4);
        stands(0, 11, 15, -5);
        is(x.at(0, 1, 2), 0);
        x.put(45, 2, 1);
        is(x.at(0, 1, 2), 2);
        rule("bars if hour = 1 or hour = 3");
        is(x.at(0, 1, 2), 1);
        is(x.at(0, 3, 2), 1);
        is(x.at(0, 2, 2), 0);
        is(x.at(0, 12, 0), NOTHING);
        is(x.at(0, -1, 0), NOTHING);
        is(x.at(0, 0, 3), NOTHING);
        is(x.at(1, 0, 0), NOTHING);
        x.cloud(1, 1, 0, 5, 6);
        isGone(1, 11);

        says("How many FIELDS are in shade in an HOUR. NONE.");
        x.cloud(3, 3, 0, 0, 0);
        x.cloud(3, 3, 0, 2, 2);
        is(x.dark(0), 17);
        is(x.dark(12), NONE);

        says("HEAT of a FIELD in an HOUR 0 .. 12. NONE.");
        x.put(3, 0, 40);
        is(x.heat(3, 0), 40);
        is(x.heat(3, 12), 100);
        is(x.heat(3, 13), NONE);
        is(x.heat(3, -1), NONE);
        is(x.heat(64, 0), NONE);

        says("SCORCHED FIELDS: how many (i NONE), the i-th. NONE.");
        x.put(50, 1, 1);
        x.put(9, 1, 1);
        is(x.scorched(NONE), 2);
        is(x.scorched(0), 9);
        is(x.scorched(1), 50);
        is(x.scorched(2), NONE);
        is(x.scorched(-2), NONE);

        says("In which HOUR a CONTRACT is BROKEN. NONE (not, too).");
        x.contract(0, 4, 5, 1, 1);
        x.contract(0, 4, 5, 0, 1);
        is(x.broken(0), 4);
        is(x.broken(1), NONE);
        is(x.broken(2), NONE);
        is(x.broken(-1), NONE);

        says("The first CONTRACT that is BROKEN by HOURS, then numbers (what 0), FEES of all that are not (1). NONE (none, for 0).");
        is(x.judge(0), NONE);
        is(x.judge(1), 0);
        x.contract(0, 4, 5, 0, 10);
        is(x.judge(0), NONE);
        x.contract(0, 4, 5, 1, 20);
        x.contract(0, 3, 5, 1, 30);
        x.contract(0, 3, 3, 1, 40);
        x.contract(0, 0, 0, 0, 50);
        is(x.judge(0), 2);
        is(x.judge(1), 60);
        is(x.judge(2), NONE);
        is(x.judge(-1), NONE);
    }

    // ---- promises 28 .. 35 ----

    private static void promisesOfPaper() {
        says("A DRIVE: how many FLAGS (i NONE), the DIRECTION in HOUR i. NONE (it can't be).");
        still(1);
        is(x.drive(0, 25, 2, 2, NONE), 2);
        is(x.drive(0, 25, 2, 2, 0), LEFT);
        is(x.drive(0, 25, 2, 2, 1), LEFT);
        is(x.drive(0, 25, 2, 2, 2), NONE);
        is(x.drive(0, 25, 1, 2, NONE), NONE);
        is(x.drive(0, 27, 0, 0, NONE), 0);
        is(x.drive(0, 27, 0, 0, 0), NONE);
        int[][] bad = {{1, 25, 2, 2, NONE}, {0, 64, 2, 2, NONE}, {0, 25, 3, 2, NONE}, {0, 25, 2, 12, NONE}, {0, 27, -1, 2, NONE}, {0, 25, 2, 2, -2}};
        for (int[] b : bad) {
            is(x.drive(b[0], b[1], b[2], b[3], b[4]), NONE);
        }

        says("PASTURE by at most n FLAGS 0 .. 11: the WORTH (i NONE), the DIRECTION in HOUR i 0 .. 10. NONE.");
        x.cloud(2, 1, 0, 6, 3);
        x.wind(0, 1, 0);
        is(x.pasture(0, 0, NONE), 3);
        is(x.pasture(0, 0, 10), NO_FLAG);
        is(x.pasture(0, 1, NONE), 5);
        is(x.pasture(0, 1, 0), LEFT);
        is(x.pasture(0, 11, NONE), 24);
        is(x.pasture(0, 11, 10), LEFT);
        is(x.pasture(0, 11, 11), NONE);
        is(x.pasture(0, 11, -2), NONE);
        is(x.pasture(0, 12, NONE), NONE);
        is(x.pasture(0, -1, NONE), NONE);
        is(x.pasture(1, 0, NONE), NONE);

        says("To SERVE: the FEES (what 0), which CONTRACTS, as bits (1). NONE.");
        still(1);
        is(x.serve(0, 0), 0);
        is(x.serve(0, 1), 0);
        x.contract(27, 0, 1, 0, 9);
        x.contract(27, 0, 1, 1, 4);
        x.contract(35, 3, 3, 1, 5);
        is(x.serve(0, 0), 9);
        is(x.serve(0, 1), 6);
        is(x.serve(0, 2), NONE);
        is(x.serve(1, 0), NONE);

        says("CROSSING: the HOUR (what 0), how many FIELDS (1). NONE (none, the same one).");
        x.cloud(2, 2, 0, 3, 3);
        x.cloud(1, 2, 1, 0, 4);
        x.wind(1, 1, 0);
        is(x.cross(0, 1, 0), 3);
        is(x.cross(0, 1, 1), 1);
        is(x.cross(0, 0, 0), NONE);
        is(x.cross(0, 2, 0), NONE);
        is(x.cross(0, 1, 2), NONE);
        x.flag(0, 1, DOWN);
        is(x.cross(0, 1, 0), NONE);

        says("To PART two CLOUDS: how many FLAGS. NONE (it can't be, the same one).");
        x.cloud(2, 2, 0, 3, 3);
        x.cloud(1, 2, 1, 0, 4);
        x.cloud(1, 1, 0, 4, 4);
        x.wind(1, 1, 0);
        is(x.part(0, 1), 1);
        is(x.part(1, 0), 1);
        is(x.part(0, 2), NONE);
        is(x.part(0, 0), NONE);
        is(x.part(0, 3), NONE);
        is(x.part(-1, 0), NONE);

        says("CHANCES of a CLOUD over a FIELD in an HOUR. NONE.");
        still(1);
        x.wind(0, 1, 0);
        is(x.likely(0, 29, 2), 640_000_000_000L);
        is(x.likely(0, 36, 2), 320_000_000_000L);
        is(x.likely(0, 43, 2), 40_000_000_000L);
        is(x.likely(0, 29, 12), NONE);
        is(x.likely(0, 64, 2), NONE);
        is(x.likely(1, 29, 2), NONE);

        says("The SUREST drive: the CHANCE (from HOUR 0, as it begins). NONE.");
        still(1);
        x.wind(0, 1, 0);
        x.terms(1, 5);
        is(x.surest(0, 27, 0), CERTAIN);
        is(x.surest(0, 28, 0), 0);
        is(x.surest(0, 29, 1), 500_000_000_000L);
        is(x.surest(0, 27, -1), NONE);
        is(x.surest(0, 27, 12), NONE);
        is(x.surest(0, 64, 1), NONE);
        is(x.surest(1, 27, 1), NONE);

        says("The SUREST drive: the DIRECTION from a CORNER in an HOUR now ahead of that. NONE.");
        still(1);
        x.wind(0, 1, 0);
        is(x.steer(0, 29, 5, 4, 3, 3), RIGHT);
        is(x.steer(0, 29, 5, 4, 5, 3), LEFT);
        is(x.steer(0, 29, 5, 4, 4, 2), DOWN);
        is(x.steer(0, 29, 5, 4, 4, 4), UP);
        is(x.steer(0, 29, 5, 5, 3, 3), NONE);
        is(x.steer(0, 29, 5, -1, 3, 3), NONE);
        is(x.steer(0, 29, 12, 4, 3, 3), NONE);
        is(x.steer(0, 29, 5, 4, 16, 3), NONE);
        is(x.steer(0, 29, 5, 4, 3, -9), NONE);
        is(x.steer(0, 64, 5, 4, 3, 3), NONE);
        is(x.steer(1, 29, 5, 4, 3, 3), NONE);
    }

    // ---- promises 36 .. 41 ----

    private static void promisesOfSights() {
        says("A SIGHT: how many there are. -1; -5.");
        for (int i = 1; i <= 10; i++) {
            is(x.sight(11, 63, 1), i);
        }
        refusedBy(-5, x.sight(11, 63, 1));
        refusedBy(-1, x.sight(11, 63, -1));

        says("SIGHTS are none then: how many there were.");
        is(x.forget(), 0);
        x.sight(0, 0, 1);
        x.sight(0, 1, 1);
        is(x.stray(1, 1, 0, NONE), 0);
        is(x.forget(), 2);
        is(x.count(3), 0);
        is(x.stray(1, 1, 0, NONE), 576);

        says("STRAYS: how many (i NONE), the i-th. NONE.");
        x.sight(0, 0, 1);
        is(x.stray(1, 2, 2, NONE), 2);
        is(x.stray(1, 2, 2, 0), 176);
        is(x.stray(1, 2, 2, 1), 200);
        is(x.stray(1, 2, 2, 2), NONE);
        is(x.stray(1, 2, 2, -2), NONE);
        is(x.stray(4, 2, 2, NONE), NONE);
        is(x.stray(1, 0, 2, NONE), NONE);
        is(x.stray(1, 2, 3, NONE), NONE);

        says("RUSTLERS: how many (i NONE), the i-th. NONE.");
        is(x.rustled(NONE), 0);
        is(x.rustled(0), NONE);
        still(1);
        x.sight(11, 19, 1);
        is(x.rustled(NONE), 11);
        is(x.rustled(0), 0);
        is(x.rustled(10), 200);
        is(x.rustled(11), NONE);
        is(x.rustled(-2), NONE);

        says("The fewest MEN.");
        is(x.men(), 0);
        still(1);
        x.cloud(1, 1, 0, 3, 7);
        x.flag(5, 0, UP);
        is(x.men(), 1);
        x.flag(0, 0, UP);
        is(x.men(), 1);
        x.flag(1, 1, UP);
        is(x.men(), 2);
        x.flag(10, 1, UP);
        is(x.men(), 2);

        says("A DUEL: whether the first can (what 0: 1, 0), the DIRECTION to begin with (1; the lowest, none last; NONE: it can't, HOUR 0). NONE.");
        x.cloud(3, 3, 0, 2, 2);
        is(x.duel(0, 27, 0, 0), 1);
        is(x.duel(0, 27, 0, 1), NONE);
        is(x.duel(0, 0, 0, 0), 0);
        is(x.duel(0, 28, 1, 0), 1);
        is(x.duel(0, 28, 1, 1), RIGHT);
        is(x.duel(0, 29, 1, 0), 0);
        is(x.duel(0, 29, 1, 1), NONE);
        is(x.duel(0, 27, 1, 2), NONE);
        is(x.duel(0, 27, 12, 0), NONE);
        is(x.duel(0, 64, 1, 0), NONE);
        is(x.duel(1, 27, 1, 0), NONE);
    }

    // ---- promises 42 .. 47 ----

    private static void promisesOfTheRest() {
        says("A SUMMER, kept as the latest: how many are SCORCHED in all. -1.");
        x.put(4, 1, 9);
        x.put(5, 1, 9);
        is(x.summer(1, 30), 60);
        is(x.drawn(4), 30);
        is(x.summer(0, 1), 2);
        is(x.drawn(4), 1);
        refusedBy(-1, x.summer(0, 31));
        refusedBy(-1, x.summer(1_000_001, 1));
        is(x.drawn(4), 1);

        says("On how many days of the latest SUMMER a FIELD was SCORCHED. NONE.");
        is(x.drawn(4), NONE);
        x.put(4, 1, 9);
        is(x.summer(1, 7), 7);
        is(x.drawn(4), 7);
        is(x.drawn(5), 0);
        is(x.drawn(64), NONE);
        is(x.drawn(-1), NONE);

        says("IMAGE k is kept: 0; -1.");
        is(x.image(0), 0);
        is(x.image(1), 0);
        still(1);
        is(x.image(1), 0);
        refusedBy(-1, x.image(2));
        refusedBy(-1, x.image(-1));
        x.back(0);
        is(x.count(0), 0);
        x.back(1);
        is(x.count(0), 1);

        says("BACK to IMAGE k: 0. -1; -2 it was not kept.");
        refusedBy(-2, x.back(0));
        refusedBy(-1, x.back(-1));
        refusedBy(-1, x.back(2));
        x.image(0);
        still(1);
        is(x.back(0), 0);
        is(x.count(0), 0);
        refusedBy(-2, x.back(1));

        says("0 CLOUDS, 1 FLAGS, 2 CONTRACTS, 3 SIGHTS, 4 LAWS, 5 bytes of the TAPE, 6 .. 10 how many calls were REFUSED by -1, -2, -3, -5, -6 (IMAGES do not keep that), 11 the LAW in FORCE, 12 .. 14 TERMS 0 .. 2. NONE for others.");
        x.image(0);
        still(4);
        x.flag(0, 0, UP);
        x.flag(1, 0, UP);
        x.contract(0, 0, 0, 0, 1);
        for (int i = 0; i < 3; i++) {
            x.sight(0, 0, 0);
        }
        for (int i = 0; i < 6; i++) {
            law("bars");
        }
        x.force(5);
        x.terms(0, 7);
        x.terms(1, 8);
        x.terms(2, 9);
        refusedBy(-1, x.put(64, 0, 0));
        refusedBy(-2, x.force(6));
        refusedBy(-2, x.back(1));
        for (int i = 0; i < 3; i++) {
            refusedBy(-3, x.flag(0, 0, UP));
        }
        for (int i = 0; i < 4; i++) {
            refusedBy(-5, law("bars"));
        }
        for (int i = 0; i < 5; i++) {
            refusedBy(-6, x.row());
        }
        x.feed(0, 0, 0, 0, 0);
        int[] counts = {4, 2, 1, 3, 6, 20, 1, 2, 3, 4, 5, 5, 7, 8, 9, NONE};
        for (int what = 0; what < counts.length; what++) {
            is(x.count(what), counts[what]);
        }
        is(x.count(-1), NONE);
        x.back(0);
        int[] then = {0, 0, 0, 0, 0, 20, 1, 2, 3, 4, 5, NONE, 0, 2, 0};
        for (int what = 0; what < then.length; what++) {
            is(x.count(what), then[what]);
        }

        says("What the latest call of put, wind, cloud, flag, undo, contract, terms, row, law, drives, force, sight, summer, image, back was REFUSED by; 0 if it was not, or ahead of any.");
        is(x.status(), 0);
        refusedBy(-1, x.put(0, 0, 100));
        is(x.put(0, 0, 0), 0);
        is(x.status(), 0);
        refusedBy(-1, x.wind(0, 0, 2));
        is(x.fact(0, 9), NONE);
        is(x.of(9, 9), NOTHING);
        is(x.cancel(), 0);
        is(x.forget(), 0);
        is(x.end(5), NONE);
        is(x.drawn(0), NONE);
        is(x.count(99), NONE);
        is(x.status(), -1);
        still(1);
        is(x.status(), 0);
        refusedBy(-2, x.flag(0, 1, 0));
        refusedBy(-3, x.undo());
        refusedBy(-1, x.contract(0, 0, 0, 0, 0));
        refusedBy(-1, x.terms(9, 9));
        refusedBy(-6, x.row());
        refusedBy(-6, law("bars if"));
        refusedBy(-6, drives("flag"));
        refusedBy(-3, drives("flag 0 to 4 at 0"));
        refusedBy(-2, x.force(0));
        refusedBy(-1, x.sight(0, 0, 2));
        refusedBy(-1, x.summer(0, 0));
        refusedBy(-1, x.image(2));
        refusedBy(-2, x.back(0));
        is(x.image(0), 0);
        is(x.status(), 0);
    }
}
