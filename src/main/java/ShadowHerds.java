/** A plain over which clouds' shadows are herded by men with flags. The promises stand in DOC.md. */
public final class ShadowHerds {
    public static final int NONE = -1;
    public static final int NOTHING = -1000;

    private static final int MOST_CLOUDS = 5;
    private static final int MOST_FLAGS = 24;
    private static final int MOST_CONTRACTS = 8;
    private static final int MOST_SIGHTS = 10;
    private static final int MOST_LAWS = 6;
    private static final int MOST_BYTES = 400;
    private static final int MOST_CLAUSES = 12;
    private static final int MOST_PARTS = 50;
    private static final int MOST_BRACKETS = 8;
    private static final int MOST_NUMBER = 1000;
    private static final int MOST_TIMES = 20;
    private static final int MOST_DAYS = 30;
    private static final int MOST_SEED = 1000000;

    private static final int FIELDS = 64;
    private static final int SIDE = 8;
    private static final int HOURS = 12;
    private static final int FLAG_HOURS = 11;
    private static final int WIDTH = 24;
    private static final int GONE = WIDTH * WIDTH;
    private static final int SPOTS = GONE + 1;
    private static final int NO_FLAG = 4;

    private static final int HEAT = 0;
    private static final int LIMIT = 1;
    private static final int WATER = 2;

    private static final int DAY_TERM = 0;
    private static final int VEER_TERM = 1;
    private static final int MOOD_TERM = 2;

    private static final int NO_NUMBER = -1;
    private static final int NO_SUCH = -2;
    private static final int NO_WAY = -3;
    private static final int NO_ROOM = -5;
    private static final int NO_TEXT = -6;

    private static final int[] STEP_X = {0, 1, 0, -1, 0};
    private static final int[] STEP_Y = {-1, 0, 1, 0, 0};

    private final Plain plain;
    private final Plain[] images;
    private final boolean[] kept;
    private final Reader reader;
    private final Reckoner reckoner;
    private final Climate climate;
    private final Sky sky;
    private final Warmth warmth;
    private final Paper paper;
    private final Planner planner;
    private final Odds odds;
    private final Watch watch;
    private final int[] refused;
    private int latest;
    private int hazy;
    private int stuckClause;
    private int lastHour;
    private int toldHere;

    public ShadowHerds() {
        plain = new Plain();
        images = new Plain[2];
        images[0] = new Plain();
        images[1] = new Plain();
        kept = new boolean[2];
        reader = new Reader();
        reckoner = new Reckoner();
        climate = new Climate(plain);
        sky = new Sky(plain, climate);
        warmth = new Warmth(plain, climate);
        paper = new Paper(plain, climate);
        planner = new Planner(plain, climate, paper);
        odds = new Odds(plain, paper);
        watch = new Watch(plain);
        refused = new int[5];
        latest = 0;
        hazy = 0;
        stuckClause = NONE;
        lastHour = NONE;
        toldHere = 0;
    }

    // ---- the plain and what stands on it ----

    public int put(int field, int what, int value) {
        if (!within(field, 0, FIELDS - 1) || !Plain.fits(what, value)) {
            return refuse(NO_NUMBER);
        }
        int former = plain.fieldFact(field, what);
        plain.setField(field, what, value);
        return grant(former);
    }

    public int fact(int field, int what) {
        return plain.fieldFact(field, what);
    }

    public int wind(int layer, int x, int y) {
        if (!within(layer, 0, 2) || !within(x, -1, 1) || !within(y, -1, 1)) {
            return refuse(NO_NUMBER);
        }
        plain.windX[layer] = x;
        plain.windY[layer] = y;
        return grant(0);
    }

    public int cloud(int wide, int tall, int layer, int x, int y) {
        if (!Plain.isShape(wide, tall, layer) || !within(x, -8, 15) || !within(y, -8, 15)) {
            return refuse(NO_NUMBER);
        }
        if (plain.clouds >= MOST_CLOUDS) {
            return refuse(NO_ROOM);
        }
        plain.addCloud(wide, tall, layer, x, y);
        return grant(plain.clouds - 1);
    }

    public int of(int cloud, int what) {
        return plain.cloudFact(cloud, what);
    }

    public int flag(int hour, int cloud, int direction) {
        int why = plain.whyNoFlag(hour, cloud, direction);
        if (why != 0) {
            return refuse(why);
        }
        plain.addFlag(hour, cloud, direction);
        return grant(plain.flags);
    }

    public int undo() {
        if (plain.flags <= 0) {
            return refuse(NO_WAY);
        }
        plain.flags--;
        return grant(plain.flagFact(plain.flags, Plain.FLAG_HOUR));
    }

    public int contract(int field, int from, int till, int is, int fee) {
        if (!within(field, 0, FIELDS - 1) || !isSpan(from, till) || !within(is, 0, 1) || !within(fee, 1, 99)) {
            return refuse(NO_NUMBER);
        }
        if (plain.contracts >= MOST_CONTRACTS) {
            return refuse(NO_ROOM);
        }
        plain.addContract(field, from, till, is, fee);
        return grant(plain.contracts - 1);
    }

    public int cancel() {
        int former = plain.contracts;
        plain.contracts = 0;
        return former;
    }

    public int terms(int what, int value) {
        if (!Plain.isTerm(what, value)) {
            return refuse(NO_NUMBER);
        }
        int former = plain.terms[what];
        plain.terms[what] = value;
        return grant(former);
    }

    public int sight(int hour, int field, int is) {
        if (!isHour(hour) || !within(field, 0, FIELDS - 1) || !within(is, 0, 1)) {
            return refuse(NO_NUMBER);
        }
        if (plain.sights >= MOST_SIGHTS) {
            return refuse(NO_ROOM);
        }
        plain.addSight(hour, field, is);
        return grant(plain.sights);
    }

    public int forget() {
        int former = plain.sights;
        plain.sights = 0;
        return former;
    }

    public int image(int k) {
        if (!within(k, 0, 1)) {
            return refuse(NO_NUMBER);
        }
        images[k].copyFrom(plain);
        kept[k] = true;
        return grant(0);
    }

    public int back(int k) {
        if (!within(k, 0, 1)) {
            return refuse(NO_NUMBER);
        }
        if (!kept[k]) {
            return refuse(NO_SUCH);
        }
        plain.copyFrom(images[k]);
        return grant(0);
    }

    public int count(int what) {
        if (within(what, 6, 10)) {
            return refused[what - 6];
        }
        if (within(what, 12, 14)) {
            return plain.terms[what - 12];
        }
        switch (what) {
            case 0: return plain.clouds;
            case 1: return plain.flags;
            case 2: return plain.contracts;
            case 3: return plain.sights;
            case 4: return plain.laws;
            case 5: return reader.length;
            case 11: return plain.inForce;
            default: return NONE;
        }
    }

    public int status() {
        return latest;
    }

    // ---- the tape and its texts ----

    public int feed(int a, int b, int c, int d, int e) {
        if (reader.length + 20 > MOST_BYTES) {
            return NONE;
        }
        reader.append(a);
        reader.append(b);
        reader.append(c);
        reader.append(d);
        reader.append(e);
        return reader.length;
    }

    public int end(int n) {
        if (!within(n, 0, reader.length)) {
            return NONE;
        }
        reader.length = n;
        return n;
    }

    public int row() {
        int length = reader.length;
        int y = reader.byteAt(0);
        if (length == 0 || !within(y, 0, SIDE - 1)) {
            reader.length = 0;
            return refuse(NO_TEXT);
        }
        int told = 0;
        for (int x = 0; x < SIDE && x + 1 < length; x++) {
            int limit = reader.byteAt(x + 1);
            if (limit > 0) {
                plain.setField(SIDE * y + x, LIMIT, limit);
                told++;
            }
        }
        hazy = length - 1 - told;
        reader.length = 0;
        return grant(told);
    }

    public int haze() {
        return hazy;
    }

    public int law() {
        if (plain.laws >= MOST_LAWS) {
            reader.length = 0;
            return refuse(NO_ROOM);
        }
        boolean read = reader.readText(true);
        reader.length = 0;
        if (!read) {
            return refuse(NO_TEXT);
        }
        plain.addLaw(reader.text.exactCopy());
        return grant(plain.laws - 1);
    }

    public int drives() {
        stuckClause = NONE;
        boolean read = reader.readText(false);
        reader.length = 0;
        if (!read) {
            return refuse(NO_TEXT);
        }
        int former = plain.flags;
        lastHour = NONE;
        toldHere = 0;
        for (int clause = 0; clause < reader.text.clauses; clause++) {
            int why = runClause(reader.text, clause);
            if (why != 0) {
                plain.flags = former;
                stuckClause = clause;
                return refuse(why);
            }
        }
        return grant(toldHere);
    }

    public int fault() {
        return reader.fault;
    }

    public int stopped() {
        return stuckClause;
    }

    public int force(int law) {
        if (law != NONE && !within(law, 0, plain.laws - 1)) {
            return refuse(NO_SUCH);
        }
        int former = plain.inForce;
        plain.inForce = law;
        return grant(former);
    }

    // ---- what is asked of all as told ----

    public int asks(int field, int hour, int what) {
        if (!within(field, 0, FIELDS - 1) || !isHour(hour) || !within(what, 0, 3)) {
            return NONE;
        }
        if (what == 3) {
            return climate.worthOf(field, hour);
        }
        sky.look();
        int shade = sky.shadeOf(field, hour);
        if (what == 0) {
            return shade;
        }
        return what == 1 ? climate.heatsBy(field, hour, shade) : climate.coolsBy(field, hour, shade);
    }

    public int at(int cloud, int hour, int what) {
        if (!plain.isCloud(cloud) || !isHour(hour) || !within(what, 0, 2)) {
            return NOTHING;
        }
        sky.look();
        int spot = sky.spotOf(cloud, hour);
        if (spot == GONE) {
            return NOTHING;
        }
        if (what == 2) {
            return climate.hindrance(cloud, hour, spot);
        }
        return what == 0 ? Sky.xOf(spot) : Sky.yOf(spot);
    }

    public int dark(int hour) {
        if (!isHour(hour)) {
            return NONE;
        }
        sky.look();
        int fields = 0;
        for (int field = 0; field < FIELDS; field++) {
            if (sky.shadeOf(field, hour) > 0) {
                fields++;
            }
        }
        return fields;
    }

    public int heat(int field, int hour) {
        if (!within(field, 0, FIELDS - 1) || !within(hour, 0, HOURS)) {
            return NONE;
        }
        sky.look();
        warmth.begin();
        return warmth.heatOf(sky, field, hour);
    }

    public int scorched(int i) {
        if (i < NONE) {
            return NONE;
        }
        sky.look();
        warmth.begin();
        int fields = 0;
        for (int field = 0; field < FIELDS; field++) {
            if (warmth.isScorched(sky, field)) {
                if (fields == i) {
                    return field;
                }
                fields++;
            }
        }
        return i == NONE ? fields : NONE;
    }

    public int broken(int contract) {
        if (!within(contract, 0, plain.contracts - 1)) {
            return NONE;
        }
        sky.look();
        return sky.breakOf(contract);
    }

    public int judge(int what) {
        if (!within(what, 0, 1)) {
            return NONE;
        }
        sky.look();
        int first = NONE;
        int firstHour = HOURS;
        int fees = 0;
        for (int contract = 0; contract < plain.contracts; contract++) {
            int hour = sky.breakOf(contract);
            if (hour == NONE) {
                fees += plain.contractFact(contract, Plain.FEE);
            } else if (hour < firstHour) {
                firstHour = hour;
                first = contract;
            }
        }
        return what == 0 ? first : fees;
    }

    public int cross(int one, int other, int what) {
        if (!plain.isCloud(one) || !plain.isCloud(other) || one == other || !within(what, 0, 1)) {
            return NONE;
        }
        sky.look();
        for (int hour = 0; hour < HOURS; hour++) {
            int fields = plain.commonFields(one, sky.spotOf(one, hour), other, sky.spotOf(other, hour));
            if (fields > 0) {
                return what == 0 ? hour : fields;
            }
        }
        return NONE;
    }

    // ---- what is asked on paper ----

    public int drive(int cloud, int field, int from, int till, int i) {
        if (!isOver(cloud, field) || !isSpan(from, till) || !within(i, NONE, till - 1)) {
            return NONE;
        }
        return planner.driven(cloud, field, from, till, i);
    }

    public int pasture(int cloud, int n, int i) {
        if (!plain.isCloud(cloud) || !within(n, 0, FLAG_HOURS) || !within(i, NONE, FLAG_HOURS - 1)) {
            return NONE;
        }
        return planner.grazed(cloud, n, i);
    }

    public int serve(int cloud, int what) {
        if (!plain.isCloud(cloud) || !within(what, 0, 1)) {
            return NONE;
        }
        return planner.served(cloud, what);
    }

    public int part(int one, int other) {
        if (!plain.isCloud(one) || !plain.isCloud(other) || one == other) {
            return NONE;
        }
        sky.look();
        return planner.parted(one, other, sky);
    }

    public long likely(int cloud, int field, int hour) {
        if (!isOver(cloud, field) || !isHour(hour)) {
            return NONE;
        }
        sky.look();
        return odds.chanceAsTold(cloud, field, hour, sky);
    }

    public long surest(int cloud, int field, int hour) {
        if (!isOver(cloud, field) || !isHour(hour)) {
            return NONE;
        }
        return odds.bestChance(cloud, field, hour);
    }

    public int steer(int cloud, int field, int hour, int now, int x, int y) {
        if (!isOver(cloud, field) || !isHour(hour) || !within(now, 0, hour - 1)) {
            return NONE;
        }
        if (!within(x, -8, 15) || !within(y, -8, 15)) {
            return NONE;
        }
        return odds.bestStep(cloud, field, hour, now, Sky.spotAt(x, y));
    }

    public int stray(int wide, int tall, int layer, int i) {
        if (!Plain.isShape(wide, tall, layer) || i < NONE) {
            return NONE;
        }
        return watch.strayed(wide, tall, layer, i);
    }

    public int rustled(int i) {
        if (i < NONE) {
            return NONE;
        }
        sky.look();
        return watch.rustlings(sky, i);
    }

    public int men() {
        sky.look();
        return watch.fewestMen(sky);
    }

    public int duel(int cloud, int field, int hour, int what) {
        if (!isOver(cloud, field) || !isHour(hour) || !within(what, 0, 1)) {
            return NONE;
        }
        return odds.fought(cloud, field, hour, what);
    }

    public int summer(int seed, int n) {
        if (!within(seed, 0, MOST_SEED) || !within(n, 1, MOST_DAYS)) {
            return refuse(NO_NUMBER);
        }
        return grant(warmth.lastSummer(seed, n));
    }

    public int drawn(int field) {
        return warmth.daysOf(field);
    }

    // ---- how a call ends ----

    private int refuse(int why) {
        latest = why;
        int slot = why >= NO_WAY ? -why - 1 : -why - 2;
        if (slot >= 0 && slot < refused.length) {
            refused[slot]++;
        }
        return why;
    }

    private int grant(int answer) {
        latest = 0;
        return answer;
    }

    private boolean isOver(int cloud, int field) {
        return plain.isCloud(cloud) && within(field, 0, FIELDS - 1);
    }

    private static boolean within(int number, int least, int most) {
        return number >= least && number <= most;
    }

    private static boolean isHour(int hour) {
        return within(hour, 0, HOURS - 1);
    }

    private static boolean isSpan(int from, int till) {
        return isHour(from) && isHour(till) && from <= till;
    }

    // ---- how drives run ----

    /** 0, or why the clause could not be run. */
    private int runClause(Script text, int clause) {
        int times = text.head(clause, Script.TIMES);
        int test = text.head(clause, Script.TEST);
        int run = 0;
        for (int time = 0; time < times; time++) {
            tellWords(run);
            if (text.asksCorners) {
                sky.look();
                sky.tellCorners(reckoner.corners);
            }
            if (test != NONE && reckoner.valueOf(text, test) != 1) {
                continue;
            }
            int why = runOnce(text, clause, run);
            if (why != 0) {
                return why == NO_ROOM ? NO_ROOM : NO_WAY;
            }
            run++;
        }
        return 0;
    }

    private int runOnce(Script text, int clause, int run) {
        int cloud = reckoner.valueOf(text, text.head(clause, Script.SUM));
        int direction = reckoner.valueOf(text, text.head(clause, Script.DIRECTION));
        int first = reckoner.valueOf(text, text.head(clause, Script.AT));
        int eachStart = text.head(clause, Script.EACH);
        int each = eachStart == NONE ? 0 : reckoner.valueOf(text, eachStart);
        if (cloud == Reckoner.BROKEN || direction == Reckoner.BROKEN) {
            return NO_WAY;
        }
        if (first == Reckoner.BROKEN || each == Reckoner.BROKEN) {
            return NO_WAY;
        }
        long hour = first + (long) each * run;
        if (hour < 0 || hour >= FLAG_HOURS) {
            return NO_NUMBER;
        }
        int why = plain.whyNoFlag((int) hour, cloud, direction);
        if (why == 0) {
            plain.addFlag((int) hour, cloud, direction);
            lastHour = (int) hour;
            toldHere++;
        }
        return why;
    }

    private void tellWords(int run) {
        int[] words = reckoner.words;
        words[Reader.DAY] = plain.terms[DAY_TERM];
        words[Reader.CLOUDS] = plain.clouds;
        words[Reader.FLAGS] = plain.flags;
        words[Reader.LAST] = lastHour;
        words[Reader.DONE] = toldHere;
        words[Reader.RUN] = run;
    }

    // ---- classes inside ----

    /** All that an image keeps. */
    private static final class Plain {
        static final int WIDE = 0;
        static final int TALL = 1;
        static final int LAYER = 2;
        static final int START_X = 3;
        static final int START_Y = 4;
        static final int CLOUD_FACTS = 5;

        static final int FLAG_HOUR = 0;
        static final int FLAG_CLOUD = 1;
        static final int FLAG_DIRECTION = 2;
        static final int FLAG_FACTS = 3;

        static final int FIELD = 0;
        static final int FROM = 1;
        static final int TILL = 2;
        static final int IN_SHADE = 3;
        static final int FEE = 4;
        static final int CONTRACT_FACTS = 5;

        static final int SIGHT_HOUR = 0;
        static final int SIGHT_FIELD = 1;
        static final int WAS_DARK = 2;
        static final int SIGHT_FACTS = 3;

        final int[] fieldFacts = new int[3 * FIELDS];
        final int[] windX = new int[3];
        final int[] windY = new int[3];
        final int[] cloudFacts = new int[CLOUD_FACTS * MOST_CLOUDS];
        final int[] flagFacts = new int[FLAG_FACTS * MOST_FLAGS];
        final int[] contractFacts = new int[CONTRACT_FACTS * MOST_CONTRACTS];
        final int[] sightFacts = new int[SIGHT_FACTS * MOST_SIGHTS];
        final int[] terms = {0, 2, 0};
        final Script[] lawTexts = new Script[MOST_LAWS];
        int clouds = 0;
        int flags = 0;
        int contracts = 0;
        int sights = 0;
        int laws = 0;
        int inForce = NONE;

        Plain() {
            for (int field = 0; field < FIELDS; field++) {
                fieldFacts[LIMIT * FIELDS + field] = 100;
            }
        }

        void copyFrom(Plain other) {
            System.arraycopy(other.fieldFacts, 0, fieldFacts, 0, fieldFacts.length);
            System.arraycopy(other.windX, 0, windX, 0, windX.length);
            System.arraycopy(other.windY, 0, windY, 0, windY.length);
            System.arraycopy(other.cloudFacts, 0, cloudFacts, 0, cloudFacts.length);
            System.arraycopy(other.flagFacts, 0, flagFacts, 0, flagFacts.length);
            System.arraycopy(other.contractFacts, 0, contractFacts, 0, contractFacts.length);
            System.arraycopy(other.sightFacts, 0, sightFacts, 0, sightFacts.length);
            System.arraycopy(other.terms, 0, terms, 0, terms.length);
            for (int law = 0; law < MOST_LAWS; law++) {
                lawTexts[law] = other.lawTexts[law];
            }
            clouds = other.clouds;
            flags = other.flags;
            contracts = other.contracts;
            sights = other.sights;
            laws = other.laws;
            inForce = other.inForce;
        }

        static boolean fits(int what, int value) {
            switch (what) {
                case HEAT: return within(value, 0, 99);
                case LIMIT: return within(value, 1, 999);
                case WATER: return within(value, 0, 1);
                default: return false;
            }
        }

        static boolean isTerm(int what, int value) {
            switch (what) {
                case DAY_TERM: return within(value, 0, 99);
                case VEER_TERM: return within(value, 0, 10);
                case MOOD_TERM: return within(value, 0, 9);
                default: return false;
            }
        }

        static boolean isShape(int wide, int tall, int layer) {
            return within(wide, 1, 3) && within(tall, 1, 3) && within(layer, 0, 2);
        }

        boolean isCloud(int cloud) {
            return cloud >= 0 && cloud < clouds;
        }

        int fieldFact(int field, int what) {
            if (!within(field, 0, FIELDS - 1) || !within(what, HEAT, WATER)) {
                return NONE;
            }
            return fieldFacts[what * FIELDS + field];
        }

        void setField(int field, int what, int value) {
            if (within(field, 0, FIELDS - 1) && within(what, HEAT, WATER)) {
                fieldFacts[what * FIELDS + field] = value;
            }
        }

        int cloudFact(int cloud, int what) {
            if (!isCloud(cloud) || !within(what, WIDE, START_Y)) {
                return NOTHING;
            }
            return cloudFacts[cloud * CLOUD_FACTS + what];
        }

        void addCloud(int wide, int tall, int layer, int x, int y) {
            if (clouds >= MOST_CLOUDS) {
                return;
            }
            int base = clouds * CLOUD_FACTS;
            cloudFacts[base + WIDE] = wide;
            cloudFacts[base + TALL] = tall;
            cloudFacts[base + LAYER] = layer;
            cloudFacts[base + START_X] = x;
            cloudFacts[base + START_Y] = y;
            clouds++;
        }

        int startOf(int cloud) {
            return isCloud(cloud) ? Sky.spotAt(cloudFact(cloud, START_X), cloudFact(cloud, START_Y)) : GONE;
        }

        int windXOf(int cloud) {
            int layer = cloudFact(cloud, LAYER);
            return within(layer, 0, 2) ? windX[layer] : 0;
        }

        int windYOf(int cloud) {
            int layer = cloudFact(cloud, LAYER);
            return within(layer, 0, 2) ? windY[layer] : 0;
        }

        boolean shadowCovers(int cloud, int spot, int field) {
            return Sky.covers(spot, cloudFact(cloud, WIDE), cloudFact(cloud, TALL), field);
        }

        int commonFields(int one, int oneSpot, int other, int otherSpot) {
            if (oneSpot == GONE || otherSpot == GONE) {
                return 0;
            }
            int across = commonLength(Sky.xOf(oneSpot), cloudFact(one, WIDE), Sky.xOf(otherSpot), cloudFact(other, WIDE));
            int down = commonLength(Sky.yOf(oneSpot), cloudFact(one, TALL), Sky.yOf(otherSpot), cloudFact(other, TALL));
            return across * down;
        }

        /** How many places 0 .. 7 two rows of told beginnings and lengths have in common. */
        static int commonLength(int one, int oneLength, int other, int otherLength) {
            int from = Math.max(0, Math.max(one, other));
            int till = Math.min(SIDE, Math.min(one + oneLength, other + otherLength));
            return Math.max(0, till - from);
        }

        int flagFact(int flag, int what) {
            if (!within(flag, 0, MOST_FLAGS - 1) || !within(what, 0, FLAG_FACTS - 1)) {
                return NONE;
            }
            return flagFacts[flag * FLAG_FACTS + what];
        }

        boolean hasFlag(int hour, int cloud) {
            for (int flag = 0; flag < flags; flag++) {
                if (flagFact(flag, FLAG_HOUR) == hour && flagFact(flag, FLAG_CLOUD) == cloud) {
                    return true;
                }
            }
            return false;
        }

        int whyNoFlag(int hour, int cloud, int direction) {
            if (!within(hour, 0, FLAG_HOURS - 1) || !within(direction, 0, NO_FLAG - 1)) {
                return NO_NUMBER;
            }
            if (!isCloud(cloud)) {
                return NO_SUCH;
            }
            if (hasFlag(hour, cloud)) {
                return NO_WAY;
            }
            return flags >= MOST_FLAGS ? NO_ROOM : 0;
        }

        void addFlag(int hour, int cloud, int direction) {
            if (flags >= MOST_FLAGS) {
                return;
            }
            int base = flags * FLAG_FACTS;
            flagFacts[base + FLAG_HOUR] = hour;
            flagFacts[base + FLAG_CLOUD] = cloud;
            flagFacts[base + FLAG_DIRECTION] = direction;
            flags++;
        }

        int contractFact(int contract, int what) {
            if (!within(contract, 0, MOST_CONTRACTS - 1) || !within(what, 0, CONTRACT_FACTS - 1)) {
                return NONE;
            }
            return contractFacts[contract * CONTRACT_FACTS + what];
        }

        void addContract(int field, int from, int till, int is, int fee) {
            if (contracts >= MOST_CONTRACTS) {
                return;
            }
            int base = contracts * CONTRACT_FACTS;
            contractFacts[base + FIELD] = field;
            contractFacts[base + FROM] = from;
            contractFacts[base + TILL] = till;
            contractFacts[base + IN_SHADE] = is;
            contractFacts[base + FEE] = fee;
            contracts++;
        }

        int sightFact(int sight, int what) {
            if (!within(sight, 0, MOST_SIGHTS - 1) || !within(what, 0, SIGHT_FACTS - 1)) {
                return NONE;
            }
            return sightFacts[sight * SIGHT_FACTS + what];
        }

        void addSight(int hour, int field, int is) {
            if (sights >= MOST_SIGHTS) {
                return;
            }
            int base = sights * SIGHT_FACTS;
            sightFacts[base + SIGHT_HOUR] = hour;
            sightFacts[base + SIGHT_FIELD] = field;
            sightFacts[base + WAS_DARK] = is;
            sights++;
        }

        void addLaw(Script text) {
            if (laws < MOST_LAWS) {
                lawTexts[laws] = text;
                laws++;
            }
        }

        /** Null, if none is in force. */
        Script lawInForce() {
            return within(inForce, 0, MOST_LAWS - 1) ? lawTexts[inForce] : null;
        }
    }

    /** A text that was read: heads of its clauses, and a code in which what they ask begins somewhere. */
    private static final class Script {
        /** Of a law's clause its kind, of a drive's clause its times. */
        static final int KIND = 0;
        static final int TIMES = 0;
        /** Of a law's clause its sum, of a drive's clause its cloud. */
        static final int SUM = 1;
        static final int DIRECTION = 2;
        static final int AT = 3;
        static final int EACH = 4;
        static final int TEST = 5;
        static final int HEAD = 6;

        final int[] heads;
        final int[] code;
        int clauses;
        int size;
        boolean asksCorners;

        Script(int mostClauses, int mostCode) {
            heads = new int[Math.max(0, mostClauses) * HEAD];
            code = new int[Math.max(0, mostCode)];
            clauses = 0;
            size = 0;
            asksCorners = false;
        }

        void clear() {
            clauses = 0;
            size = 0;
            asksCorners = false;
        }

        /** What law() keeps is as long as the text needs, as laws may be many over the images. */
        Script exactCopy() {
            Script copy = new Script(clauses, size);
            System.arraycopy(heads, 0, copy.heads, 0, Math.min(heads.length, copy.heads.length));
            System.arraycopy(code, 0, copy.code, 0, Math.min(code.length, copy.code.length));
            copy.clauses = clauses;
            copy.size = size;
            copy.asksCorners = asksCorners;
            return copy;
        }

        int head(int clause, int what) {
            int slot = clause * HEAD + what;
            return slot >= 0 && slot < heads.length ? heads[slot] : NONE;
        }

        void setHead(int clause, int what, int value) {
            int slot = clause * HEAD + what;
            if (slot >= 0 && slot < heads.length) {
                heads[slot] = value;
            }
        }

        void addClause() {
            for (int what = 0; what < HEAD; what++) {
                setHead(clauses, what, NONE);
            }
            clauses++;
        }

        void emit(int order, int argument) {
            if (size + 2 <= code.length) {
                code[size] = order;
                code[size + 1] = argument;
                size += 2;
            }
        }

        /** The jump emitted there goes to what is emitted next. */
        void landHere(int jump) {
            if (jump >= 0 && jump + 1 < size) {
                code[jump + 1] = size;
            }
        }
    }

    /** The tape, and how a text on it is read. */
    private static final class Reader {
        /** Laws' words stand first, then drives' words ("day" is of both), then words that lead something in. */
        static final String WORDS = "x y hour cloud layer shade mood day clouds flags last done run left top heats cools worth bars flag to at each times if or and not ";
        static final int X = 0;
        static final int Y = 1;
        static final int HOUR = 2;
        static final int CLOUD = 3;
        static final int LAYER = 4;
        static final int SHADE = 5;
        static final int MOOD = 6;
        static final int DAY = 7;
        static final int CLOUDS = 8;
        static final int FLAGS = 9;
        static final int LAST = 10;
        static final int DONE = 11;
        static final int RUN = 12;
        static final int LEFT = 13;
        static final int TOP = 14;
        static final int HEATS = 15;
        static final int COOLS = 16;
        static final int WORTH = 17;
        static final int BARS = 18;
        static final int FLAG = 19;
        static final int TO = 20;
        static final int AT = 21;
        static final int EACH = 22;
        static final int TIMES = 23;
        static final int IF = 24;
        static final int OR = 25;
        static final int AND = 26;
        static final int NOT = 27;
        static final int UNKNOWN = 28;
        static final int TAPE_END = 29;
        /** Signs are their byte more, numbers their value more. */
        static final int SIGN = 1000;
        static final int NUMBER = 2000;

        final int[] tape = new int[MOST_BYTES];
        final int[] tokens = new int[MOST_BYTES + 1];
        final int[] places = new int[MOST_BYTES + 1];
        final Script text = new Script(MOST_CLAUSES, 2 * MOST_BYTES);
        int length = 0;
        int tokenCount = 0;
        int next = 0;
        int parts = 0;
        int fault = NONE;
        boolean lawful = false;

        void append(int four) {
            for (int shift = 24; shift >= 0; shift -= 8) {
                if (length < MOST_BYTES) {
                    tape[length] = four >>> shift & 255;
                    length++;
                }
            }
        }

        int byteAt(int place) {
            return place >= 0 && place < length && place < MOST_BYTES ? tape[place] : NONE;
        }

        /** Whether the tape is a text of laws (else of drives); the fault is told. */
        boolean readText(boolean ofLaws) {
            lawful = ofLaws;
            split();
            next = 0;
            parts = 0;
            text.clear();
            boolean more = true;
            boolean read = true;
            for (int clause = 0; clause < MOST_CLAUSES && read && more; clause++) {
                text.addClause();
                read = lawful ? readLawHead(clause) : readDriveHead(clause);
                if (read && take(IF)) {
                    text.setHead(clause, Script.TEST, text.size);
                    read = readTest(0);
                    text.emit(Reckoner.STOP, 0);
                }
                if (read && token() == TAPE_END) {
                    more = false;
                } else {
                    read = read && take(SIGN + ';');
                }
            }
            read = read && !more;
            fault = read ? NONE : placeOfNext();
            return read;
        }

        // -- tokens --

        private void split() {
            tokenCount = 0;
            int place = 0;
            for (int i = 0; i < MOST_BYTES && place < length; i++) {
                int sign = byteAt(place);
                int behind = place + 1;
                if (isLetter(sign)) {
                    behind = behindLetters(place);
                    addToken(wordOf(place, behind), place);
                } else if (isDigit(sign)) {
                    behind = behindDigits(place);
                    addToken(NUMBER + numberOf(place, behind), place);
                } else if (sign != ' ') {
                    addToken(SIGN + sign, place);
                }
                place = behind;
            }
            addToken(TAPE_END, length);
        }

        private void addToken(int token, int place) {
            if (tokenCount < tokens.length) {
                tokens[tokenCount] = token;
                places[tokenCount] = place;
                tokenCount++;
            }
        }

        private static boolean isLetter(int sign) {
            return sign >= 'a' && sign <= 'z';
        }

        private static boolean isDigit(int sign) {
            return sign >= '0' && sign <= '9';
        }

        private int behindLetters(int from) {
            int behind = from;
            for (int i = from; i < length && isLetter(byteAt(i)); i++) {
                behind = i + 1;
            }
            return behind;
        }

        private int behindDigits(int from) {
            int behind = from;
            for (int i = from; i < length && isDigit(byteAt(i)); i++) {
                behind = i + 1;
            }
            return behind;
        }

        /** Its value, or one more than the greatest that can be. */
        private int numberOf(int from, int behind) {
            int value = 0;
            for (int i = from; i < behind; i++) {
                value = Math.min(MOST_NUMBER + 1, 10 * value + byteAt(i) - '0');
            }
            return value;
        }

        private int wordOf(int from, int behind) {
            int word = 0;
            int start = 0;
            for (int i = 0; i < WORDS.length(); i++) {
                if (WORDS.charAt(i) == ' ') {
                    if (i - start == behind - from && isWordAt(start, i, from)) {
                        return word;
                    }
                    word++;
                    start = i + 1;
                }
            }
            return UNKNOWN;
        }

        private boolean isWordAt(int start, int till, int from) {
            for (int i = start; i < till; i++) {
                if (WORDS.charAt(i) != byteAt(from + i - start)) {
                    return false;
                }
            }
            return true;
        }

        private int token() {
            return next >= 0 && next < tokenCount && next < tokens.length ? tokens[next] : TAPE_END;
        }

        private int placeOfNext() {
            return next >= 0 && next < places.length ? places[next] : length;
        }

        private boolean take(int token) {
            boolean there = token() == token;
            if (there) {
                pass();
            }
            return there;
        }

        /** The tape's end is never passed, so a fault always has its place. */
        private void pass() {
            if (next + 1 < tokenCount && next + 1 < places.length) {
                next++;
            }
        }

        // -- clauses --

        private boolean readLawHead(int clause) {
            int kind = token();
            if (kind < HEATS || kind > BARS) {
                return false;
            }
            pass();
            text.setHead(clause, Script.KIND, kind);
            return kind == BARS || readSumOf(clause, Script.SUM);
        }

        private boolean readDriveHead(int clause) {
            text.setHead(clause, Script.TIMES, 1);
            if (!take(FLAG) || !readSumOf(clause, Script.SUM)) {
                return false;
            }
            if (!take(TO) || !readSumOf(clause, Script.DIRECTION)) {
                return false;
            }
            if (!take(AT) || !readSumOf(clause, Script.AT)) {
                return false;
            }
            if (take(EACH) && !readSumOf(clause, Script.EACH)) {
                return false;
            }
            return !take(TIMES) || readTimes(clause);
        }

        private boolean readTimes(int clause) {
            int times = token() - NUMBER;
            if (times < 1 || times > MOST_TIMES) {
                return false;
            }
            pass();
            text.setHead(clause, Script.TIMES, times);
            return true;
        }

        private boolean readSumOf(int clause, int what) {
            text.setHead(clause, what, text.size);
            boolean read = readSum(0);
            text.emit(Reckoner.STOP, 0);
            return read;
        }

        // -- tests and sums; depth: how many brackets stand open --

        private boolean readTest(int depth) {
            int orJump = NONE;
            boolean read = readPlain(depth);
            for (int i = 0; i < MOST_BYTES && read; i++) {
                int jump = text.size;
                if (take(AND)) {
                    text.emit(Reckoner.JUMP_IF_NOT, 0);
                    read = readPlain(depth);
                    text.landHere(jump);
                } else {
                    text.landHere(orJump);
                    if (!take(OR)) {
                        return true;
                    }
                    orJump = jump;
                    text.emit(Reckoner.JUMP_IF_SO, 0);
                    read = readPlain(depth);
                }
            }
            return read;
        }

        private boolean readPlain(int depth) {
            boolean turned = false;
            for (int i = 0; i < MOST_BYTES && take(NOT); i++) {
                turned = !turned;
            }
            boolean read;
            if (token() == SIGN + '(') {
                if (depth >= MOST_BRACKETS) {
                    return false;
                }
                pass();
                read = readTest(depth + 1) && take(SIGN + ')');
            } else {
                read = readSum(depth);
                int relation = relationOf(token());
                if (!read || relation == NONE) {
                    return false;
                }
                pass();
                read = readSum(depth);
                text.emit(relation, 0);
            }
            if (turned) {
                text.emit(Reckoner.TURN, 0);
            }
            return read;
        }

        private static int relationOf(int token) {
            switch (token) {
                case SIGN + '<': return Reckoner.LESS;
                case SIGN + '>': return Reckoner.MORE;
                case SIGN + '=': return Reckoner.SAME;
                default: return NONE;
            }
        }

        private boolean readSum(int depth) {
            int waiting = NONE;
            boolean read = readPart(depth);
            for (int i = 0; i < MOST_BYTES && read; i++) {
                int order = orderOf(token());
                if (order == Reckoner.TIMES || order == Reckoner.SHARE || order == Reckoner.REST) {
                    pass();
                    read = readPart(depth);
                    text.emit(order, 0);
                } else {
                    if (waiting != NONE) {
                        text.emit(waiting, 0);
                    }
                    if (order == NONE) {
                        return true;
                    }
                    waiting = order;
                    pass();
                    read = readPart(depth);
                }
            }
            return read;
        }

        private static int orderOf(int token) {
            switch (token) {
                case SIGN + '+': return Reckoner.ADD;
                case SIGN + '-': return Reckoner.TAKE;
                case SIGN + '*': return Reckoner.TIMES;
                case SIGN + '/': return Reckoner.SHARE;
                case SIGN + '%': return Reckoner.REST;
                default: return NONE;
            }
        }

        private boolean readPart(int depth) {
            int token = token();
            if (token == SIGN + '[') {
                if (depth >= MOST_BRACKETS) {
                    return false;
                }
                pass();
                return readSum(depth + 1) && take(SIGN + ']');
            }
            if (parts >= MOST_PARTS) {
                return false;
            }
            if (token >= NUMBER && token <= NUMBER + MOST_NUMBER) {
                parts++;
                pass();
                text.emit(Reckoner.PUSH, token - NUMBER);
                return true;
            }
            return readWord(token);
        }

        private boolean readWord(int token) {
            boolean known = lawful ? token >= X && token <= DAY : token >= DAY && token <= TOP;
            if (!known) {
                return false;
            }
            parts++;
            pass();
            if (token < LEFT) {
                text.emit(Reckoner.ASK, token);
                return true;
            }
            int cloud = token() - NUMBER;
            if (!within(cloud, 0, MOST_CLOUDS - 1)) {
                return false;
            }
            pass();
            int hour = token() - NUMBER;
            if (!within(hour, 0, HOURS - 1)) {
                return false;
            }
            pass();
            text.asksCorners = true;
            text.emit(Reckoner.CORNER, Sky.cornerSlot(token - LEFT, cloud, hour));
            return true;
        }
    }

    /** How sums and tests of a script are reckoned; so is 1, not so is 0. */
    private static final class Reckoner {
        static final int BROKEN = Integer.MIN_VALUE;
        static final int MOST = 1000000000;

        static final int STOP = 0;
        static final int PUSH = 1;
        static final int ASK = 2;
        static final int CORNER = 3;
        static final int TURN = 4;
        static final int JUMP_IF_SO = 5;
        static final int JUMP_IF_NOT = 6;
        static final int ADD = 7;
        static final int TAKE = 8;
        static final int TIMES = 9;
        static final int SHARE = 10;
        static final int REST = 11;
        static final int LESS = 12;
        static final int MORE = 13;
        static final int SAME = 14;

        final int[] words = new int[13];
        final int[] corners = new int[2 * MOST_CLOUDS * HOURS];
        final int[] stack = new int[64];

        /** BROKEN, as soon as a part that is asked is. */
        int valueOf(Script script, int start) {
            int[] code = script.code;
            int place = start;
            int depth = 0;
            for (int step = 0; step < code.length; step++) {
                if (place < 0 || place + 1 >= code.length || depth >= stack.length) {
                    return BROKEN;
                }
                int order = code[place];
                int argument = code[place + 1];
                place += 2;
                if (order == PUSH || order == ASK || order == CORNER) {
                    stack[depth] = fetched(order, argument);
                    depth++;
                } else if (depth < 1) {
                    return BROKEN;
                } else if (order == STOP) {
                    return stack[0];
                } else if (order == TURN) {
                    stack[depth - 1] = 1 - stack[depth - 1];
                } else if (order == JUMP_IF_SO || order == JUMP_IF_NOT) {
                    if (stack[depth - 1] == 1 == (order == JUMP_IF_SO)) {
                        place = argument;
                    } else {
                        depth--;
                    }
                } else if (depth < 2) {
                    return BROKEN;
                } else {
                    int value = joined(order, stack[depth - 2], stack[depth - 1]);
                    if (value == BROKEN) {
                        return BROKEN;
                    }
                    depth--;
                    stack[depth - 1] = value;
                }
            }
            return BROKEN;
        }

        private int fetched(int order, int argument) {
            if (order == PUSH || argument < 0) {
                return argument;
            }
            int[] row = order == ASK ? words : corners;
            return argument < row.length ? row[argument] : NONE;
        }

        private static int joined(int order, long one, long other) {
            long value;
            switch (order) {
                case ADD: value = one + other; break;
                case TAKE: value = one - other; break;
                case TIMES: value = one * other; break;
                case SHARE: value = other == 0 ? BROKEN : one / other; break;
                case REST: value = other == 0 ? BROKEN : one % other; break;
                case LESS: value = one < other ? 1 : 0; break;
                case MORE: value = one > other ? 1 : 0; break;
                case SAME: value = one == other ? 1 : 0; break;
                default: value = BROKEN; break;
            }
            return value < -MOST || value > MOST ? BROKEN : (int) value;
        }
    }

    /** What the law in force tells. */
    private static final class Climate {
        static final int HEATS_WITHOUT = 5;
        static final int COOLS_WITHOUT = 3;
        static final int WORTH_WITHOUT = 1;
        static final int MOST_TOLD = 99;

        static final int BARRED = 1;
        static final int OVER_WATER = 2;

        final Plain plain;
        final Reckoner reckoner = new Reckoner();

        Climate(Plain plain) {
            this.plain = plain;
        }

        int heatsBy(int field, int hour, int shade) {
            askField(field, hour, shade);
            return toldBy(Reader.HEATS, HEATS_WITHOUT);
        }

        int coolsBy(int field, int hour, int shade) {
            askField(field, hour, shade);
            return toldBy(Reader.COOLS, COOLS_WITHOUT);
        }

        int worthOf(int field, int hour) {
            askField(field, hour, NONE);
            return toldBy(Reader.WORTH, WORTH_WITHOUT);
        }

        /** Why no flag would help a cloud there, or 0. */
        int hindrance(int cloud, int hour, int spot) {
            tellWords(Sky.xOf(spot), Sky.yOf(spot), hour, NONE);
            reckoner.words[Reader.CLOUD] = cloud;
            reckoner.words[Reader.LAYER] = plain.cloudFact(cloud, Plain.LAYER);
            if (toldBy(Reader.BARS, 0) == 1) {
                return BARRED;
            }
            return isOverWater(spot) ? OVER_WATER : 0;
        }

        private boolean isOverWater(int spot) {
            int x = Sky.xOf(spot);
            int y = Sky.yOf(spot);
            if (!within(x, 0, SIDE - 1) || !within(y, 0, SIDE - 1)) {
                return false;
            }
            return plain.fieldFact(SIDE * y + x, WATER) == 1;
        }

        private void askField(int field, int hour, int shade) {
            tellWords(field % SIDE, field / SIDE, hour, shade);
            reckoner.words[Reader.CLOUD] = NONE;
            reckoner.words[Reader.LAYER] = NONE;
        }

        private void tellWords(int x, int y, int hour, int shade) {
            int[] words = reckoner.words;
            words[Reader.X] = x;
            words[Reader.Y] = y;
            words[Reader.HOUR] = hour;
            words[Reader.SHADE] = shade;
            words[Reader.MOOD] = plain.terms[MOOD_TERM];
            words[Reader.DAY] = plain.terms[DAY_TERM];
        }

        /** What the last clause of that kind that holds tells (1, where it tells nothing). */
        private int toldBy(int kind, int without) {
            Script law = plain.lawInForce();
            if (law == null) {
                return without;
            }
            for (int clause = law.clauses - 1; clause >= 0; clause--) {
                if (law.head(clause, Script.KIND) == kind) {
                    int test = law.head(clause, Script.TEST);
                    int sum = law.head(clause, Script.SUM);
                    if (test == NONE || reckoner.valueOf(law, test) == 1) {
                        int told = sum == NONE ? 1 : reckoner.valueOf(law, sum);
                        if (told != Reckoner.BROKEN) {
                            return Math.max(0, Math.min(MOST_TOLD, told));
                        }
                    }
                }
            }
            return without;
        }
    }

    /** Where clouds go by winds and flags. A spot is 24 times (y and 8), and x and 8, or GONE. */
    private static final class Sky {
        final Plain plain;
        final Climate climate;
        final int[] told = new int[MOST_CLOUDS * FLAG_HOURS];
        final int[] spots = new int[MOST_CLOUDS * HOURS];

        Sky(Plain plain, Climate climate) {
            this.plain = plain;
            this.climate = climate;
        }

        static int spotAt(int x, int y) {
            return within(x, -8, 15) && within(y, -8, 15) ? WIDTH * (y + 8) + x + 8 : GONE;
        }

        static int xOf(int spot) {
            return spot % WIDTH - 8;
        }

        static int yOf(int spot) {
            return spot / WIDTH - 8;
        }

        static int movedBy(int spot, int x, int y) {
            int column = spot % WIDTH + x;
            int line = spot / WIDTH + y;
            if (spot == GONE || column < 0 || column >= WIDTH || line < 0 || line >= WIDTH) {
                return GONE;
            }
            return WIDTH * line + column;
        }

        static boolean covers(int spot, int wide, int tall, int field) {
            if (spot == GONE) {
                return false;
            }
            int x = field % SIDE - xOf(spot);
            int y = field / SIDE - yOf(spot);
            return within(x, 0, wide - 1) && within(y, 0, tall - 1);
        }

        static int cornerSlot(int what, int cloud, int hour) {
            return (what * MOST_CLOUDS + cloud) * HOURS + hour;
        }

        static int stepX(int direction) {
            return within(direction, 0, NO_FLAG) ? STEP_X[direction] : 0;
        }

        static int stepY(int direction) {
            return within(direction, 0, NO_FLAG) ? STEP_Y[direction] : 0;
        }

        /** All clouds go as told. */
        void look() {
            hearFlags();
            for (int cloud = 0; cloud < plain.clouds; cloud++) {
                place(cloud, 0, plain.startOf(cloud));
                for (int hour = 0; hour < FLAG_HOURS; hour++) {
                    goOn(cloud, hour, false);
                }
            }
        }

        /** One cloud goes as told. */
        void follow(int cloud) {
            place(cloud, 0, plain.startOf(cloud));
            for (int hour = 0; hour < FLAG_HOURS; hour++) {
                goOn(cloud, hour, false);
            }
        }

        void hearFlags() {
            for (int slot = 0; slot < told.length; slot++) {
                told[slot] = NO_FLAG;
            }
            for (int flag = 0; flag < plain.flags; flag++) {
                int hour = plain.flagFact(flag, Plain.FLAG_HOUR);
                tell(plain.flagFact(flag, Plain.FLAG_CLOUD), hour, plain.flagFact(flag, Plain.FLAG_DIRECTION));
            }
        }

        void tell(int cloud, int hour, int direction) {
            if (within(cloud, 0, MOST_CLOUDS - 1) && within(hour, 0, FLAG_HOURS - 1)) {
                told[cloud * FLAG_HOURS + hour] = direction;
            }
        }

        int flagOf(int cloud, int hour) {
            if (!within(cloud, 0, MOST_CLOUDS - 1) || !within(hour, 0, FLAG_HOURS - 1)) {
                return NO_FLAG;
            }
            return told[cloud * FLAG_HOURS + hour];
        }

        /** The cloud's spot of the next hour, by its wind or by that turned. */
        void goOn(int cloud, int hour, boolean turned) {
            int spot = spotOf(cloud, hour);
            int flag = flagOf(cloud, hour);
            if (spot != GONE && flag != NO_FLAG && climate.hindrance(cloud, hour, spot) != 0) {
                flag = NO_FLAG;
            }
            int x = plain.windXOf(cloud);
            int y = plain.windYOf(cloud);
            int goesX = turned ? -y : x;
            int goesY = turned ? x : y;
            place(cloud, hour + 1, movedBy(spot, goesX + stepX(flag), goesY + stepY(flag)));
        }

        void place(int cloud, int hour, int spot) {
            if (within(cloud, 0, MOST_CLOUDS - 1) && isHour(hour)) {
                spots[cloud * HOURS + hour] = spot;
            }
        }

        int spotOf(int cloud, int hour) {
            if (!within(cloud, 0, MOST_CLOUDS - 1) || !isHour(hour)) {
                return GONE;
            }
            return spots[cloud * HOURS + hour];
        }

        int shadeOf(int field, int hour) {
            int shade = 0;
            for (int cloud = 0; cloud < plain.clouds; cloud++) {
                if (plain.shadowCovers(cloud, spotOf(cloud, hour), field)) {
                    shade++;
                }
            }
            return shade;
        }

        /** The hour in which a contract is broken, or NONE. */
        int breakOf(int contract) {
            int field = plain.contractFact(contract, Plain.FIELD);
            boolean inShade = plain.contractFact(contract, Plain.IN_SHADE) == 1;
            int till = plain.contractFact(contract, Plain.TILL);
            for (int hour = plain.contractFact(contract, Plain.FROM); hour <= till; hour++) {
                if (shadeOf(field, hour) > 0 != inShade) {
                    return hour;
                }
            }
            return NONE;
        }

        boolean sightsAreSo() {
            for (int sight = 0; sight < plain.sights; sight++) {
                int hour = plain.sightFact(sight, Plain.SIGHT_HOUR);
                boolean dark = shadeOf(plain.sightFact(sight, Plain.SIGHT_FIELD), hour) > 0;
                if (dark != (plain.sightFact(sight, Plain.WAS_DARK) == 1)) {
                    return false;
                }
            }
            return true;
        }

        /** For the words left and top of drives. */
        void tellCorners(int[] corners) {
            for (int cloud = 0; cloud < MOST_CLOUDS; cloud++) {
                for (int hour = 0; hour < HOURS; hour++) {
                    int spot = plain.isCloud(cloud) ? spotOf(cloud, hour) : GONE;
                    int left = cornerSlot(0, cloud, hour);
                    int top = cornerSlot(1, cloud, hour);
                    if (left < corners.length && top < corners.length) {
                        corners[left] = spot == GONE ? 100 : xOf(spot);
                        corners[top] = spot == GONE ? 100 : yOf(spot);
                    }
                }
            }
        }
    }

    /** How fields heat and cool, on a day as told and over a summer. */
    private static final class Warmth {
        static final int UNKNOWN = Integer.MIN_VALUE;
        static final int SHADES = MOST_CLOUDS + 1;

        final Plain plain;
        final Climate climate;
        final Sky drawnSky;
        /** What is known of a field's change in an hour by so many clouds; all the days of a summer ask the same. */
        final int[] changes = new int[HOURS * FIELDS * SHADES];
        final int[] days = new int[FIELDS];
        boolean hadSummer = false;
        int seed = 0;

        Warmth(Plain plain, Climate climate) {
            this.plain = plain;
            this.climate = climate;
            drawnSky = new Sky(plain, climate);
        }

        void begin() {
            for (int slot = 0; slot < changes.length; slot++) {
                changes[slot] = UNKNOWN;
            }
        }

        int heatOf(Sky sky, int field, int till) {
            int heat = plain.fieldFact(field, HEAT);
            for (int hour = 0; hour < HOURS && hour < till; hour++) {
                heat = Math.max(0, heat + changeOf(sky, field, hour));
            }
            return heat;
        }

        boolean isScorched(Sky sky, int field) {
            int limit = plain.fieldFact(field, LIMIT);
            int heat = plain.fieldFact(field, HEAT);
            for (int hour = 0; hour < HOURS && heat <= limit; hour++) {
                heat = Math.max(0, heat + changeOf(sky, field, hour));
            }
            return heat > limit;
        }

        private int changeOf(Sky sky, int field, int hour) {
            int shade = sky.shadeOf(field, hour);
            int slot = (hour * FIELDS + field) * SHADES + shade;
            if (slot < 0 || slot >= changes.length) {
                return 0;
            }
            if (changes[slot] == UNKNOWN) {
                int heats = shade == 0 ? climate.heatsBy(field, hour, shade) : -climate.coolsBy(field, hour, shade);
                changes[slot] = heats;
            }
            return changes[slot];
        }

        int daysOf(int field) {
            return hadSummer && within(field, 0, FIELDS - 1) ? days[field] : NONE;
        }

        /** How many fields are scorched in all; it is kept as the latest summer. */
        int lastSummer(int firstSeed, int dayCount) {
            begin();
            hadSummer = true;
            seed = firstSeed;
            for (int field = 0; field < FIELDS; field++) {
                days[field] = 0;
            }
            int all = 0;
            drawnSky.hearFlags();
            for (int day = 0; day < dayCount; day++) {
                drawDay();
                for (int field = 0; field < FIELDS; field++) {
                    if (isScorched(drawnSky, field)) {
                        days[field]++;
                        all++;
                    }
                }
            }
            return all;
        }

        private void drawDay() {
            for (int cloud = 0; cloud < plain.clouds; cloud++) {
                drawnSky.place(cloud, 0, plain.startOf(cloud));
            }
            for (int hour = 0; hour < FLAG_HOURS; hour++) {
                for (int cloud = 0; cloud < plain.clouds; cloud++) {
                    boolean gone = drawnSky.spotOf(cloud, hour) == GONE;
                    drawnSky.goOn(cloud, hour, !gone && drawOfTen() < plain.terms[VEER_TERM]);
                }
            }
        }

        private int drawOfTen() {
            seed = (int) ((seed * 1103L + 12345) % 1000003);
            return seed % 10;
        }
    }

    /** Where one cloud can come to, if flags are free: a sheet of spots by hours. */
    private static final class Paper {
        static final int UNREACHED = 0;
        static final int FREE = 1;
        static final int STUCK = 2;

        final Plain plain;
        final Climate climate;
        final int[] marks = new int[HOURS * SPOTS];
        int cloud = NONE;
        int windX = 0;
        int windY = 0;

        Paper(Plain plain, Climate climate) {
            this.plain = plain;
            this.climate = climate;
        }

        void take(int number) {
            cloud = number;
            windX = plain.windXOf(number);
            windY = plain.windYOf(number);
        }

        static int slotOf(int hour, int spot) {
            return hour * SPOTS + spot;
        }

        int markOf(int hour, int spot) {
            int slot = slotOf(hour, spot);
            return slot >= 0 && slot < marks.length ? marks[slot] : UNREACHED;
        }

        boolean isReached(int hour, int spot) {
            return markOf(hour, spot) != UNREACHED;
        }

        void strike(int hour, int spot) {
            int slot = slotOf(hour, spot);
            if (slot >= 0 && slot < marks.length) {
                marks[slot] = UNREACHED;
            }
        }

        boolean shades(int spot, int field) {
            return plain.shadowCovers(cloud, spot, field);
        }

        /** Marks what is reached from a spot by so many men with flags, and by turned winds if they veer. */
        void spread(int now, int spot, int till, int men, boolean veers) {
            for (int slot = 0; slot < marks.length; slot++) {
                marks[slot] = UNREACHED;
            }
            reach(now, spot);
            int ways = (NO_FLAG + 1) * (men > 1 ? NO_FLAG + 1 : 1);
            for (int hour = now; hour < till; hour++) {
                for (int from = 0; from < SPOTS; from++) {
                    int waysFrom = isReached(hour, from) ? ways : 0;
                    for (int way = 0; way < waysFrom; way++) {
                        int one = way % (NO_FLAG + 1);
                        int other = men > 1 ? way / (NO_FLAG + 1) : NO_FLAG;
                        reach(hour + 1, onward(hour, from, one, other, false));
                        if (veers) {
                            reach(hour + 1, onward(hour, from, one, other, true));
                        }
                    }
                }
            }
        }

        private void reach(int hour, int spot) {
            int slot = slotOf(hour, spot);
            if (slot >= 0 && slot < marks.length && marks[slot] == UNREACHED) {
                marks[slot] = spot != GONE && climate.hindrance(cloud, hour, spot) == 0 ? FREE : STUCK;
            }
        }

        /** The spot of the next hour by two men's flags. */
        int onward(int hour, int spot, int one, int other, boolean turned) {
            int x = turned ? -windY : windX;
            int y = turned ? windX : windY;
            if (markOf(hour, spot) == FREE) {
                x += Sky.stepX(one) + Sky.stepX(other);
                y += Sky.stepY(one) + Sky.stepY(other);
            }
            return Sky.movedBy(spot, x, y);
        }
    }

    /** What flags of one cloud can do, if winds go as told. */
    private static final class Planner {
        static final int FAR = 1000;
        static final int BUDGETS = FLAG_HOURS + 1;
        static final int LAYER = SPOTS * BUDGETS;
        static final int CHOICE_BITS = 3;
        static final int ROW_BITS = (1 << WIDTH) - 1;

        final Plain plain;
        final Climate climate;
        final Paper paper;
        final int[] costs = new int[HOURS * SPOTS];
        /** The worth from an hour on by spots and by flags left: the hour's layer and the next one's. */
        final int[] yields = new int[2 * LAYER];
        /** The first best directions by hours and spots, three bits of each for every number of flags left. */
        final long[] choices = new long[FLAG_HOURS * SPOTS];
        final int[] worths = new int[FIELDS];
        final int[] stuckRows = new int[HOURS * WIDTH];
        final int[] rows = new int[WIDTH];
        final int[] nextRows = new int[WIDTH];

        Planner(Plain plain, Climate climate, Paper paper) {
            this.plain = plain;
            this.climate = climate;
            this.paper = paper;
        }

        // -- drives and parting --

        int driven(int cloud, int field, int from, int till, int i) {
            int start = plain.startOf(cloud);
            paper.take(cloud);
            paper.spread(0, start, till, 1, false);
            for (int hour = from; hour <= till; hour++) {
                for (int spot = 0; spot < SPOTS; spot++) {
                    if (!paper.shades(spot, field)) {
                        paper.strike(hour, spot);
                    }
                }
            }
            reckonCosts(till);
            int flags = costOf(0, start);
            if (flags >= FAR) {
                return NONE;
            }
            return i == NONE ? flags : cheapStepIn(i, start);
        }

        int parted(int one, int other, Sky sky) {
            int start = plain.startOf(one);
            paper.take(one);
            paper.spread(0, start, HOURS - 1, 1, false);
            for (int hour = 0; hour < HOURS; hour++) {
                int otherSpot = sky.spotOf(other, hour);
                for (int spot = 0; spot < SPOTS; spot++) {
                    if (plain.commonFields(one, spot, other, otherSpot) > 0) {
                        paper.strike(hour, spot);
                    }
                }
            }
            reckonCosts(HOURS - 1);
            int flags = costOf(0, start);
            return flags >= FAR ? NONE : flags;
        }

        /** The fewest flags from each spot that is left on the paper till that hour. */
        private void reckonCosts(int till) {
            for (int hour = till; hour >= 0; hour--) {
                for (int spot = 0; spot < SPOTS; spot++) {
                    int slot = Paper.slotOf(hour, spot);
                    if (slot >= 0 && slot < costs.length) {
                        costs[slot] = cheapest(hour, spot, till);
                    }
                }
            }
        }

        private int cheapest(int hour, int spot, int till) {
            if (!paper.isReached(hour, spot)) {
                return FAR;
            }
            if (hour == till) {
                return 0;
            }
            int least = FAR;
            for (int step = 0; step <= NO_FLAG; step++) {
                least = Math.min(least, costBy(hour, spot, step));
            }
            return least;
        }

        private int costBy(int hour, int spot, int step) {
            int flags = step == NO_FLAG ? 0 : 1;
            return costOf(hour + 1, paper.onward(hour, spot, step, NO_FLAG, false)) + flags;
        }

        private int costOf(int hour, int spot) {
            int slot = Paper.slotOf(hour, spot);
            return slot >= 0 && slot < costs.length ? costs[slot] : FAR;
        }

        private int cheapStepIn(int last, int start) {
            int spot = start;
            int step = NO_FLAG;
            for (int hour = 0; hour <= last; hour++) {
                step = cheapStep(hour, spot);
                spot = paper.onward(hour, spot, step, NO_FLAG, false);
            }
            return step;
        }

        private int cheapStep(int hour, int spot) {
            for (int step = 0; step < NO_FLAG; step++) {
                if (costBy(hour, spot, step) == costOf(hour, spot)) {
                    return step;
                }
            }
            return NO_FLAG;
        }

        // -- pasture --

        int grazed(int cloud, int n, int i) {
            int start = plain.startOf(cloud);
            paper.take(cloud);
            paper.spread(0, start, HOURS - 1, 1, false);
            for (int hour = HOURS - 1; hour >= 0; hour--) {
                for (int field = 0; field < FIELDS; field++) {
                    worths[field] = climate.worthOf(field, hour);
                }
                for (int spot = 0; spot < SPOTS; spot++) {
                    if (paper.isReached(hour, spot)) {
                        graze(hour, spot, n);
                    }
                }
            }
            return i == NONE ? yieldOf(0, start, n) : grazeStepIn(i, start, n);
        }

        private void graze(int hour, int spot, int n) {
            int worth = worthUnder(spot);
            long packed = 0;
            for (int left = 0; left <= n; left++) {
                int step = hour < FLAG_HOURS ? richStep(hour, spot, left) : NO_FLAG;
                int further = hour < FLAG_HOURS ? yieldBy(hour, spot, left, step) : 0;
                packed |= (long) step << CHOICE_BITS * left;
                int slot = yieldSlot(hour, spot, left);
                if (slot >= 0 && slot < yields.length) {
                    yields[slot] = worth + further;
                }
            }
            int slot = Paper.slotOf(hour, spot);
            if (slot >= 0 && slot < choices.length) {
                choices[slot] = packed;
            }
        }

        private int worthUnder(int spot) {
            if (spot == GONE) {
                return 0;
            }
            int fromX = Math.max(0, Sky.xOf(spot));
            int fromY = Math.max(0, Sky.yOf(spot));
            int tillX = Math.min(SIDE, Sky.xOf(spot) + plain.cloudFact(paper.cloud, Plain.WIDE));
            int tillY = Math.min(SIDE, Sky.yOf(spot) + plain.cloudFact(paper.cloud, Plain.TALL));
            int worth = 0;
            for (int y = fromY; y < tillY; y++) {
                for (int x = fromX; x < tillX; x++) {
                    worth += worths[SIDE * y + x];
                }
            }
            return worth;
        }

        private int richStep(int hour, int spot, int left) {
            int best = NONE;
            int first = NO_FLAG;
            for (int step = left > 0 ? 0 : NO_FLAG; step <= NO_FLAG; step++) {
                int further = yieldBy(hour, spot, left, step);
                if (further > best) {
                    best = further;
                    first = step;
                }
            }
            return first;
        }

        private int yieldBy(int hour, int spot, int left, int step) {
            int spent = step == NO_FLAG ? 0 : 1;
            return yieldOf(hour + 1, paper.onward(hour, spot, step, NO_FLAG, false), left - spent);
        }

        private static int yieldSlot(int hour, int spot, int left) {
            return (hour & 1) * LAYER + spot * BUDGETS + left;
        }

        private int yieldOf(int hour, int spot, int left) {
            int slot = yieldSlot(hour, spot, left);
            return slot >= 0 && slot < yields.length ? yields[slot] : 0;
        }

        private int grazeStepIn(int last, int start, int n) {
            int spot = start;
            int left = n;
            int step = NO_FLAG;
            for (int hour = 0; hour <= last; hour++) {
                int slot = Paper.slotOf(hour, spot);
                long packed = slot >= 0 && slot < choices.length ? choices[slot] : 0;
                step = (int) (packed >>> CHOICE_BITS * left) & 7;
                spot = paper.onward(hour, spot, step, NO_FLAG, false);
                left -= step == NO_FLAG ? 0 : 1;
            }
            return step;
        }

        // -- service: sets of spots as rows of bits, for many sets of contracts are tried --

        int served(int cloud, int what) {
            paper.take(cloud);
            paper.spread(0, plain.startOf(cloud), HOURS - 1, 1, false);
            drawStuckRows();
            int forShade = 0;
            for (int contract = 0; contract < plain.contracts; contract++) {
                forShade |= plain.contractFact(contract, Plain.IN_SHADE) << contract;
            }
            int most = 0;
            int which = 0;
            for (int bits = 1; bits <= forShade; bits++) {
                if ((bits & ~forShade) == 0) {
                    int fees = feesOf(bits);
                    if (fees > most && canKeep(bits)) {
                        most = fees;
                        which = bits;
                    }
                }
            }
            return what == 0 ? most : which;
        }

        private void drawStuckRows() {
            for (int hour = 0; hour < HOURS; hour++) {
                for (int y = 0; y < WIDTH; y++) {
                    int bits = 0;
                    for (int x = 0; x < WIDTH; x++) {
                        if (paper.markOf(hour, WIDTH * y + x) == Paper.STUCK) {
                            bits |= 1 << x;
                        }
                    }
                    stuckRows[hour * WIDTH + y] = bits;
                }
            }
        }

        private int feesOf(int bits) {
            int fees = 0;
            for (int contract = 0; contract < plain.contracts; contract++) {
                if ((bits >>> contract & 1) == 1) {
                    fees += plain.contractFact(contract, Plain.FEE);
                }
            }
            return fees;
        }

        private boolean canKeep(int bits) {
            int last = lastHourOf(bits);
            int start = plain.startOf(paper.cloud);
            for (int y = 0; y < WIDTH; y++) {
                rows[y] = start / WIDTH == y ? 1 << start % WIDTH : 0;
            }
            for (int hour = 0; hour < HOURS && hour <= last; hour++) {
                for (int contract = 0; contract < plain.contracts; contract++) {
                    if ((bits >>> contract & 1) == 1 && isDue(contract, hour)) {
                        keepOver(plain.contractFact(contract, Plain.FIELD));
                    }
                }
                if (rowsAreEmpty()) {
                    return false;
                }
                moveRows(hour);
            }
            return true;
        }

        private int lastHourOf(int bits) {
            int last = 0;
            for (int contract = 0; contract < plain.contracts; contract++) {
                if ((bits >>> contract & 1) == 1) {
                    last = Math.max(last, plain.contractFact(contract, Plain.TILL));
                }
            }
            return last;
        }

        private boolean isDue(int contract, int hour) {
            return within(hour, plain.contractFact(contract, Plain.FROM), plain.contractFact(contract, Plain.TILL));
        }

        private void keepOver(int field) {
            int wide = plain.cloudFact(paper.cloud, Plain.WIDE);
            int tall = plain.cloudFact(paper.cloud, Plain.TALL);
            int right = field % SIDE + 8;
            int low = field / SIDE + 8;
            int bits = (1 << wide) - 1 << right - wide + 1;
            for (int y = 0; y < WIDTH; y++) {
                rows[y] &= within(y, low - tall + 1, low) ? bits : 0;
            }
        }

        private boolean rowsAreEmpty() {
            int all = 0;
            for (int y = 0; y < WIDTH; y++) {
                all |= rows[y];
            }
            return all == 0;
        }

        private void moveRows(int hour) {
            for (int y = 0; y < WIDTH; y++) {
                nextRows[y] = 0;
            }
            for (int y = 0; y < WIDTH; y++) {
                int bits = rows[y];
                if (bits != 0) {
                    int free = bits & ~stuckRows[hour * WIDTH + y];
                    for (int step = 0; step <= NO_FLAG; step++) {
                        moveRow(step == NO_FLAG ? bits : free, y, step);
                    }
                }
            }
            System.arraycopy(nextRows, 0, rows, 0, WIDTH);
        }

        private void moveRow(int bits, int y, int step) {
            int to = y + paper.windY + Sky.stepY(step);
            int by = paper.windX + Sky.stepX(step);
            if (to >= 0 && to < WIDTH) {
                nextRows[to] |= (by >= 0 ? bits << by : bits >>> -by) & ROW_BITS;
            }
        }
    }

    /** What flags of one cloud can do, if winds veer, or if another one flags, too. */
    private static final class Odds {
        static final long CERTAIN = 1000000000000L;

        final Plain plain;
        final Paper paper;
        /** Chances by spots: an hour's layer and the next one's. */
        final long[] chances = new long[2 * SPOTS];
        int veer = 0;
        int firstStep = NO_FLAG;

        Odds(Plain plain, Paper paper) {
            this.plain = plain;
            this.paper = paper;
        }

        private long chanceOf(int hour, int spot) {
            int slot = (hour & 1) * SPOTS + spot;
            return slot >= 0 && slot < chances.length ? chances[slot] : 0;
        }

        private void setChance(int hour, int spot, long chance) {
            int slot = (hour & 1) * SPOTS + spot;
            if (slot >= 0 && slot < chances.length) {
                chances[slot] = chance;
            }
        }

        // -- flags as told --

        long chanceAsTold(int cloud, int field, int hour, Sky sky) {
            int start = plain.startOf(cloud);
            veer = plain.terms[VEER_TERM];
            paper.take(cloud);
            paper.spread(0, start, hour, 1, true);
            for (int slot = 0; slot < chances.length; slot++) {
                chances[slot] = 0;
            }
            setChance(0, start, CERTAIN);
            for (int now = 0; now < hour; now++) {
                drift(now, sky.flagOf(cloud, now));
            }
            long chance = 0;
            for (int spot = 0; spot < GONE; spot++) {
                if (paper.shades(spot, field)) {
                    chance += chanceOf(hour, spot);
                }
            }
            return chance;
        }

        private void drift(int hour, int flag) {
            for (int spot = 0; spot < SPOTS; spot++) {
                setChance(hour + 1, spot, 0);
            }
            for (int spot = 0; spot < SPOTS; spot++) {
                long tenth = chanceOf(hour, spot) / 10;
                if (tenth > 0) {
                    int straight = paper.onward(hour, spot, flag, NO_FLAG, false);
                    int turned = paper.onward(hour, spot, flag, NO_FLAG, true);
                    setChance(hour + 1, straight, chanceOf(hour + 1, straight) + tenth * (10 - veer));
                    setChance(hour + 1, turned, chanceOf(hour + 1, turned) + tenth * veer);
                }
            }
        }

        // -- flags as one likes --

        long bestChance(int cloud, int field, int hour) {
            int start = plain.startOf(cloud);
            paper.take(cloud);
            paper.spread(0, start, hour, 1, true);
            reckonBack(field, hour, 0, false);
            return chanceOf(0, start);
        }

        int bestStep(int cloud, int field, int hour, int now, int spot) {
            paper.take(cloud);
            paper.spread(now, spot, hour, 1, true);
            reckonBack(field, hour, now, false);
            return firstStep;
        }

        int fought(int cloud, int field, int hour, int what) {
            int start = plain.startOf(cloud);
            paper.take(cloud);
            paper.spread(0, start, hour, 2, false);
            reckonBack(field, hour, 0, true);
            boolean can = chanceOf(0, start) > 0;
            if (what == 0) {
                return can ? 1 : 0;
            }
            return can && hour > 0 ? firstStep : NONE;
        }

        /** Of the hour now a single spot is on the paper: its chance and first step are told. */
        private void reckonBack(int field, int hour, int now, boolean fight) {
            veer = plain.terms[VEER_TERM];
            for (int spot = 0; spot < SPOTS; spot++) {
                setChance(hour, spot, paper.shades(spot, field) ? CERTAIN : 0);
            }
            for (int back = hour - 1; back >= now; back--) {
                for (int spot = 0; spot < SPOTS; spot++) {
                    if (paper.isReached(back, spot)) {
                        setChance(back, spot, bestOf(back, spot, fight));
                    }
                }
            }
        }

        private long bestOf(int hour, int spot, boolean fight) {
            long best = -1;
            for (int step = 0; step <= NO_FLAG && best < CERTAIN; step++) {
                long chance = fight ? worstBy(hour, spot, step) : chanceBy(hour, spot, step);
                if (chance > best) {
                    best = chance;
                    firstStep = step;
                }
            }
            return best;
        }

        private long chanceBy(int hour, int spot, int step) {
            long straight = chanceOf(hour + 1, paper.onward(hour, spot, step, NO_FLAG, false));
            long turned = chanceOf(hour + 1, paper.onward(hour, spot, step, NO_FLAG, true));
            return straight / 10 * (10 - veer) + turned / 10 * veer;
        }

        private long worstBy(int hour, int spot, int step) {
            long worst = CERTAIN;
            for (int other = 0; other <= NO_FLAG && worst > 0; other++) {
                worst = Math.min(worst, chanceOf(hour + 1, paper.onward(hour, spot, step, other, false)));
            }
            return worst;
        }
    }

    /** Who was there: strays, rustlers, men. */
    private static final class Watch {
        final Plain plain;
        final int[] path = new int[HOURS];
        final int[] stands = new int[MOST_FLAGS];
        final int[] hours = new int[MOST_FLAGS];
        /** Of each flag the one from which its man comes, or NONE. */
        final int[] former = new int[MOST_FLAGS];
        final int[] asked = new int[MOST_FLAGS];

        Watch(Plain plain) {
            this.plain = plain;
        }

        // -- strays --

        int strayed(int wide, int tall, int layer, int i) {
            int found = 0;
            for (int spot = 0; spot < GONE; spot++) {
                drift(spot, layer);
                if (isAsSeen(wide, tall)) {
                    if (found == i) {
                        return spot;
                    }
                    found++;
                }
            }
            return i == NONE ? found : NONE;
        }

        private void drift(int start, int layer) {
            int x = within(layer, 0, 2) ? plain.windX[layer] : 0;
            int y = within(layer, 0, 2) ? plain.windY[layer] : 0;
            int spot = start;
            for (int hour = 0; hour < HOURS; hour++) {
                path[hour] = spot;
                spot = Sky.movedBy(spot, x, y);
            }
        }

        private boolean isAsSeen(int wide, int tall) {
            for (int sight = 0; sight < plain.sights; sight++) {
                int hour = plain.sightFact(sight, Plain.SIGHT_HOUR);
                int spot = isHour(hour) ? path[hour] : GONE;
                boolean dark = Sky.covers(spot, wide, tall, plain.sightFact(sight, Plain.SIGHT_FIELD));
                if (dark != (plain.sightFact(sight, Plain.WAS_DARK) == 1)) {
                    return false;
                }
            }
            return true;
        }

        // -- rustlers --

        int rustlings(Sky sky, int i) {
            int found = 0;
            for (int number = 0; number < FLAG_HOURS * 20; number++) {
                int hour = number / 20;
                int cloud = number % 20 / 4;
                if (plain.isCloud(cloud) && sky.flagOf(cloud, hour) == NO_FLAG) {
                    sky.tell(cloud, hour, number % 4);
                    sky.follow(cloud);
                    boolean so = sky.sightsAreSo();
                    sky.tell(cloud, hour, NO_FLAG);
                    sky.follow(cloud);
                    if (so && found == i) {
                        return number;
                    }
                    found += so ? 1 : 0;
                }
            }
            return i == NONE ? found : NONE;
        }

        // -- men --

        /** Flags less the most that can be the next one of another one. */
        int fewestMen(Sky sky) {
            int needed = 0;
            for (int flag = 0; flag < plain.flags && flag < MOST_FLAGS; flag++) {
                int hour = plain.flagFact(flag, Plain.FLAG_HOUR);
                int spot = sky.spotOf(plain.flagFact(flag, Plain.FLAG_CLOUD), hour);
                if (spot != GONE) {
                    hours[needed] = hour;
                    stands[needed] = spot;
                    former[needed] = NONE;
                    needed++;
                }
            }
            int men = needed;
            for (int flag = 0; flag < needed; flag++) {
                for (int i = 0; i < needed; i++) {
                    asked[i] = 0;
                }
                if (findNext(flag, needed, 0)) {
                    men--;
                }
            }
            return men;
        }

        /** Whether that flag's man gets a next flag; others' men give theirs up, if they get another one. */
        private boolean findNext(int flag, int needed, int depth) {
            if (depth > MOST_FLAGS) {
                return false;
            }
            for (int next = 0; next < needed; next++) {
                if (asked[next] == 0 && canFollow(flag, next)) {
                    asked[next] = 1;
                    int holder = former[next];
                    if (holder == NONE || findNext(holder, needed, depth + 1)) {
                        former[next] = flag;
                        return true;
                    }
                }
            }
            return false;
        }

        private boolean canFollow(int flag, int next) {
            int between = hours[next] - hours[flag];
            if (between < 0 || between == 0 && next <= flag) {
                return false;
            }
            int x = Math.abs(Sky.xOf(stands[next]) - Sky.xOf(stands[flag]));
            int y = Math.abs(Sky.yOf(stands[next]) - Sky.yOf(stands[flag]));
            return x + y <= between;
        }
    }
}
