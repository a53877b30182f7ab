import java.util.NoSuchElementException;

/**
 * Surveyors of a shy king walk his land's hedges, none twice too soon.
 * ../shared/DOC.md says what every call promises; its words are used here.
 */
public final class NoHedgeTwice {
    public static final int NONE = -1;

    private static final int MAX_CORNERS = 10;
    private static final int MAX_HEDGES = 14;
    private static final int MAX_LONG = 20;
    private static final int MAX_SIGNS = 80;
    private static final int MAX_LAND_SIGNS = 76;
    private static final int MAX_TOUR_SIGNS = 30;
    private static final int MAX_UNDO = 30;
    private static final int MAX_HEARINGS = 12;
    private static final int MAX_COWS = 3;
    private static final int FIELDS = 6;
    private static final int WAYS = 4096;
    private static final int TOURS = 2;
    private static final int KEPT = 3;
    private static final int MAX_NIGHTS = 99;
    private static final int MAX_MINUTES = 9999;
    private static final int MAX_WAIT = 99;
    private static final int MAX_SEASON = 60;
    private static final int MAX_WISH = 200;
    private static final int DAY_MINUTES = 60;
    private static final int LIGHT_MINUTES = 40;
    /** More than any minutes or GRASS can be; what Numbers can hold at most. */
    private static final int FOREVER = 65535;

    private static final int NOT_HERE = -2;
    private static final int NOT_FRESH = -3;
    private static final int NOT_LIGHT = -4;
    private static final int TOO_LATE = -5;
    private static final int CANNOT = -2;
    private static final int MISSING = -3;
    private static final int NO_SUCH_TOUR = -100;

    private final Text text = new Text();
    private final Land ground = new Land();
    private final Row told = new Row();
    private final Spot walker = new Spot();
    private final Spot scout = new Spot();
    private final Steps steps = new Steps();
    private final Tour[] tours = new Tour[TOURS];
    private final Rounds rounds = new Rounds();
    private final Trips trips = new Trips();
    private final GateWalk gateWalk = new GateWalk();
    private final Ears ears = new Ears();
    private final Spot[] kept = new Spot[KEPT];
    private final boolean[] isKept = new boolean[KEPT];

    public NoHedgeTwice() {
        for (int i = 0; i < TOURS; i++) {
            tours[i] = new Tour();
        }
        for (int i = 0; i < KEPT; i++) {
            kept[i] = new Spot();
        }
    }

    // ---- the land

    public int sign(int v) {
        return text.append(v) ? text.length : NONE;
    }

    public boolean end(int n) {
        if (n < 0 || n > text.length) {
            return false;
        }
        text.length = n;
        return true;
    }

    public int land() {
        if (text.length == 0) {
            return 0;
        }
        int lines = text.readLines(ground);
        text.length = 0;
        if (lines > 0) {
            steps.count = 0;
        }
        return lines;
    }

    public int hedge(int h, int what) throws NoSuchElementException {
        if (!ground.hasHedge(h) || what < 0 || what > 8) {
            throw new NoSuchElementException("no such hedge, or nothing such of it");
        }
        switch (what) {
            case 0: return ground.first[h];
            case 1: return ground.second[h];
            case 2: return ground.minutes[h];
            case 3: return ground.left[h];
            case 4: return ground.right[h];
            case 5: return ground.worth[h];
            case 6: return ground.wind[h];
            case 7: return ground.gate[h] ? 1 : 0;
            default: return walker.isFresh(ground, h) ? 1 : 0;
        }
    }

    public int grass(int a, int b) {
        if (!ground.hasCorner(a) || !ground.hasCorner(b)) {
            return NONE;
        }
        return ground.grassBetween(a, b);
    }

    public int set(int what, int h, int v) {
        switch (what) {
            case 0: return setDigit(ground.worth, h, v);
            case 1: return setDigit(ground.wind, h, v);
            case 2: return setNights(v);
            case 3: return setFrost(v);
            default: return NONE;
        }
    }

    private int setDigit(int[] digits, int h, int v) {
        if (!ground.hasHedge(h) || v < 0 || v > 9) {
            return NONE;
        }
        int was = digits[h];
        digits[h] = v;
        return was;
    }

    private int setNights(int v) {
        if (v < 0 || v > MAX_NIGHTS) {
            return NONE;
        }
        int was = ground.nights;
        ground.nights = v;
        return was;
    }

    private int setFrost(int v) {
        if (v < 0 || v > MAX_MINUTES) {
            return NONE;
        }
        int was = ground.frost;
        ground.frost = v;
        return was;
    }

    public int sheet(int kind, int n, int f, int step) {
        if (kind < 0 || kind > 3 || n > MAX_HEDGES) {
            return NONE;
        }
        boolean missing = kind == 3;
        if (!missing && n < 0) {
            return -2;
        }
        int sum = 0;
        for (int h = 0; h < ground.hedges; h++) {
            boolean tells = !missing && h < n;
            ground.minutes[h] = tells ? sheetEntry(kind, f + h * step) : 1;
            sum += ground.minutes[h];
        }
        return missing ? MISSING : sum;
    }

    private static int sheetEntry(int kind, int v) {
        int entry = kind == 0 ? (byte) v : kind == 1 ? (short) v : v;
        return Math.max(1, Math.min(MAX_LONG, entry));
    }

    // ---- the walker

    public int walk(int h) {
        if (!ground.hasHedge(h)) {
            return NONE;
        }
        int why = walker.whyNot(ground, h);
        if (why != 0) {
            return why;
        }
        steps.remember(walker, h);
        return walker.step(ground, h);
    }

    public int rest(int n) {
        if (n < 0 || n > MAX_MINUTES) {
            return NONE;
        }
        if (walker.time + n > ground.frost) {
            return TOO_LATE;
        }
        walker.time += n;
        steps.count = 0;
        return walker.time;
    }

    public int undo() {
        return steps.takeBack(walker) ? steps.count : NONE;
    }

    public boolean go(int corner) {
        if (!ground.hasCorner(corner)) {
            return false;
        }
        walker.beginAt(corner);
        steps.count = 0;
        return true;
    }

    public int can() {
        int bits = 0;
        for (int h = 0; h < ground.hedges; h++) {
            if (walker.whyNot(ground, h) == 0) {
                bits |= 1 << h;
            }
        }
        return bits;
    }

    public int tour(int i) {
        int length = text.length;
        text.length = 0;
        if (i < 0 || i >= TOURS) {
            return NO_SUCH_TOUR;
        }
        int bad = Tour.firstBad(ground, text.signs, length);
        if (bad >= 0) {
            return -1 - bad;
        }
        Tour tour = tours[i];
        tour.lay(text.signs, length);
        int minutes = tour.schedule(ground);
        told.tell(tour.corner[tour.steps]);
        told.add(tour.bits());
        return minutes;
    }

    public int look(int i) {
        if (i < 0 || i >= TOURS) {
            return NONE;
        }
        Tour tour = tours[i];
        if (!tour.laid) {
            return MISSING;
        }
        scout.copyFrom(walker);
        scout.corner = tour.start;
        int worths = 0;
        int place = 0;
        int why = 0;
        for (int k = 0; k < tour.steps && why == 0; k++) {
            int h = tour.hedges[k];
            why = scout.whyNot(ground, h);
            if (why == 0) {
                scout.step(ground, h);
                worths += ground.worth[h];
                place++;
            }
        }
        told.tell(why);
        told.add(scout.time - walker.time);
        told.add(worths);
        return why == 0 ? CANNOT : place;
    }

    public int meets(int wait) {
        if (wait < 0 || wait > MAX_WAIT) {
            return NONE;
        }
        if (!scheduleBoth()) {
            return MISSING;
        }
        int meeting = Tour.firstMeeting(tours[0], tours[1], wait);
        if (meeting < 0) {
            return CANNOT;
        }
        told.tell(meeting & 15);
        return meeting >> 4;
    }

    public int apart() {
        if (!scheduleBoth()) {
            return MISSING;
        }
        for (int wait = 0; wait <= MAX_WAIT; wait++) {
            if (Tour.firstMeeting(tours[0], tours[1], wait) < 0) {
                return wait;
            }
        }
        return CANNOT;
    }

    private boolean scheduleBoth() {
        if (!tours[0].laid || !tours[1].laid) {
            return false;
        }
        tours[0].schedule(ground);
        tours[1].schedule(ground);
        return true;
    }

    public int season(int n) {
        if (n < 0 || n > MAX_SEASON) {
            return NONE;
        }
        steps.count = 0;
        int walks = 0;
        int worths = 0;
        int days = 0;
        boolean on = walker.isLight() || walker.toNextDay(ground);
        // each walk takes a minute or more and ends by FROST: so many turns are enough
        for (int turn = 0; turn <= MAX_MINUTES + MAX_SEASON && on && days < n; turn++) {
            int h = walker.isLight() ? walker.dearest(ground) : NONE;
            if (h == NONE) {
                days++;
                on = walker.toNextDay(ground);
            } else {
                walker.step(ground, h);
                walks++;
                worths += ground.worth[h];
            }
        }
        told.tell(worths);
        told.add(walkersCorner());
        return walks;
    }

    private int walkersCorner() {
        return ground.corners == 0 ? NONE : walker.corner;
    }

    // ---- rounds

    public int odd() {
        int bits = ground.oddCorners(ground.everyHedge());
        told.tell(bits);
        return Integer.bitCount(bits);
    }

    public int men() {
        int odd = ground.oddCorners(ground.everyHedge());
        int seen = 0;
        int parts = 0;
        int men = 0;
        for (int h = 0; h < ground.hedges; h++) {
            if ((seen >> ground.first[h] & 1) == 0) {
                int part = ground.hanging(ground.first[h], ground.everyHedge());
                seen |= part;
                parts++;
                men += Math.max(1, Integer.bitCount(part & odd) / 2);
            }
        }
        told.tell(parts);
        return men;
    }

    public int trail(int corner) {
        if (!ground.hasCorner(corner)) {
            return NONE;
        }
        if (!ground.isTrail(corner, ground.everyHedge())) {
            return CANNOT;
        }
        return rounds.leastTrail(ground, corner, told);
    }

    public int round() {
        int all = ground.everyHedge();
        if (ground.oddCorners(all) != 0 || !ground.hangsTogether()) {
            return CANNOT;
        }
        int turned = rounds.cheapestTurns(ground);
        int minutes = 0;
        for (int h = 0; h < ground.hedges; h++) {
            minutes += ground.minutes[h];
        }
        told.tell(turned);
        return minutes + rounds.windOf(ground, turned);
    }

    public int closed() {
        if (!ground.hangsTogether()) {
            return CANNOT;
        }
        return rounds.leastGrass(ground, 0, told);
    }

    public int open() {
        if (!ground.hangsTogether()) {
            return CANNOT;
        }
        boolean even = ground.oddCorners(ground.everyHedge()) == 0;
        return rounds.leastGrass(ground, even ? 0 : 2, told);
    }

    // ---- by the frost

    public int most(int corner, int minutes) {
        return mostWorth(corner, minutes, false);
    }

    public int home(int corner, int minutes) {
        return mostWorth(corner, minutes, true);
    }

    private int mostWorth(int corner, int minutes, boolean back) {
        if (!ground.hasCorner(corner) || minutes < 0 || minutes > MAX_MINUTES) {
            return NONE;
        }
        trips.explore(ground, corner, minutes);
        int bits = trips.dearest(ground, corner, back);
        told.tell(bits);
        told.add(trips.minutesOf(bits));
        return ground.worthOf(bits);
    }

    public int soon(int corner, int v) {
        if (!ground.hasCorner(corner) || v < 0 || v > MAX_WISH) {
            return NONE;
        }
        trips.explore(ground, corner, MAX_MINUTES);
        int bits = trips.quickest(ground, v);
        if (bits < 0) {
            return CANNOT;
        }
        told.tell(bits);
        return trips.minutesOf(bits);
    }

    // ---- what is cut off

    public int bridges() {
        int bits = 0;
        for (int h = 0; h < ground.hedges; h++) {
            int others = ground.everyHedge() & ~(1 << h);
            if ((ground.hanging(ground.first[h], others) >> ground.second[h] & 1) == 0) {
                bits |= 1 << h;
            }
        }
        return bits;
    }

    public int reach(int h) throws NoSuchElementException {
        if (ground.corners == 0 || (h != NONE && !ground.hasHedge(h))) {
            throw new NoSuchElementException("no such hedge, or no corners");
        }
        int among = 0;
        for (int k = 0; k < ground.hedges; k++) {
            if (k != h && walker.isFresh(ground, k)) {
                among |= 1 << k;
            }
        }
        return ground.hanging(walker.corner, among);
    }

    public int gates(int corner) {
        if (!ground.hasCorner(corner)) {
            return NONE;
        }
        gateWalk.prepare(ground);
        int minutes = gateWalk.fewestMinutes(ground, corner);
        if (minutes < 0) {
            return CANNOT;
        }
        gateWalk.tellLeastOrder(ground, corner, told);
        return minutes;
    }

    // ---- what is heard

    public int heard(int h, int cows) {
        if (!ground.hasHedge(h) || cows < 0 || cows > 2 * MAX_COWS) {
            return NONE;
        }
        return ears.hear(h, cows) ? ears.count : NONE;
    }

    public int forget() {
        if (ears.count == 0) {
            return NONE;
        }
        ears.count--;
        return ears.count;
    }

    public int lands() {
        int found = ears.findWays(ground);
        told.clear();
        if (found > 0) {
            told.add(Ears.asDigits(ears.leastWay));
        }
        return found;
    }

    public int sure() {
        int found = ears.findWays(ground);
        told.clear();
        if (found == 0) {
            return 0;
        }
        int differ = ears.differences();
        int bits = 0;
        for (int field = 0; field < FIELDS; field++) {
            if (Ears.cowsIn(differ, field) == 0) {
                bits |= 1 << field;
                told.add(Ears.cowsIn(ears.leastWay, field));
            }
        }
        return bits;
    }

    public int next() {
        int found = ears.findWays(ground);
        if (found == 0 || ground.hedges == 0) {
            return CANNOT;
        }
        int best = 0;
        int least = WAYS + 1;
        for (int h = 0; h < ground.hedges; h++) {
            int worst = ears.mostLeft(ground, h);
            if (worst < least) {
                least = worst;
                best = h;
            }
        }
        told.tell(least);
        return best;
    }

    public int lies() {
        int bits = ears.fewestLies(ground);
        told.tell(bits);
        return Integer.bitCount(bits);
    }

    public int quarrel() {
        int first = ears.firstWithoutWays(ground);
        if (first < 0) {
            return CANNOT;
        }
        told.tell(ears.firstAgainst(ground, first));
        return first;
    }

    // ---- kept

    public boolean keep(int i) {
        if (i < 0 || i >= KEPT) {
            return false;
        }
        kept[i].copyFrom(walker);
        isKept[i] = true;
        return true;
    }

    public boolean again(int i) {
        if (i < 0 || i >= KEPT || !isKept[i]) {
            return false;
        }
        walker.copyFrom(kept[i]);
        steps.count = 0;
        return true;
    }

    public int count(int what) {
        switch (what) {
            case 0: return ground.corners;
            case 1: return ground.hedges;
            case 2: return walkersCorner();
            case 3: return walker.time;
            case 4: return steps.count;
            case 5: return ears.count;
            case 6: return told.count;
            case 7: return text.length;
            case 8: return ground.nights;
            case 9: return ground.frost;
            default: return NONE;
        }
    }

    public int row(int i) throws NoSuchElementException {
        if (i < 0 || i >= told.count) {
            throw new NoSuchElementException("no such number of the row");
        }
        return told.numbers[i];
    }

    /** The ROW: the longest one names each HEDGE once. */
    private static final class Row {
        final int[] numbers = new int[MAX_HEDGES];
        int count = 0;

        void clear() {
            count = 0;
        }

        void add(int v) {
            if (count < MAX_HEDGES) {
                numbers[count] = v;
                count++;
            }
        }

        void tell(int v) {
            clear();
            add(v);
        }
    }

    /** THE LAND, with NIGHTS and FROST. */
    private static final class Land {
        int corners = 0;
        int hedges = 0;
        int nights = 9;
        int frost = 600;
        final int[] x = new int[MAX_CORNERS];
        final int[] y = new int[MAX_CORNERS];
        final int[] first = new int[MAX_HEDGES];
        final int[] second = new int[MAX_HEDGES];
        final int[] minutes = new int[MAX_HEDGES];
        final int[] left = new int[MAX_HEDGES];
        final int[] right = new int[MAX_HEDGES];
        final int[] worth = new int[MAX_HEDGES];
        final int[] wind = new int[MAX_HEDGES];
        final boolean[] gate = new boolean[MAX_HEDGES];

        boolean hasCorner(int c) {
            return c >= 0 && c < corners;
        }

        boolean hasHedge(int h) {
            return h >= 0 && h < hedges;
        }

        boolean touches(int h, int c) {
            return first[h] == c || second[h] == c;
        }

        int otherEnd(int h, int c) {
            return first[h] == c ? second[h] : first[h];
        }

        int minutesFrom(int h, int c) {
            return first[h] == c ? minutes[h] : minutes[h] + wind[h];
        }

        int grassBetween(int a, int b) {
            return 2 * (Math.abs(x[a] - x[b]) + Math.abs(y[a] - y[b]));
        }

        int everyHedge() {
            return (1 << hedges) - 1;
        }

        int endsOf(int h) {
            return 1 << first[h] | 1 << second[h];
        }

        int worthOf(int among) {
            int sum = 0;
            for (int h = 0; h < hedges; h++) {
                if ((among >> h & 1) != 0) {
                    sum += worth[h];
                }
            }
            return sum;
        }

        int oddCorners(int among) {
            int odd = 0;
            for (int h = 0; h < hedges; h++) {
                if ((among >> h & 1) != 0) {
                    odd ^= endsOf(h);
                }
            }
            return odd;
        }

        /** The CORNERS that hang together with one by the HEDGES told. */
        int hanging(int corner, int among) {
            int found = 1 << corner;
            int before = 0;
            for (int turn = 0; turn < MAX_CORNERS && found != before; turn++) {
                before = found;
                for (int h = 0; h < hedges; h++) {
                    if ((among >> h & 1) != 0 && (found & endsOf(h)) != 0) {
                        found |= endsOf(h);
                    }
                }
            }
            return found;
        }

        boolean hangsTogether() {
            return hedges == 0 || holdsAll(hanging(first[0], everyHedge()), everyHedge());
        }

        private boolean holdsAll(int part, int among) {
            for (int h = 0; h < hedges; h++) {
                if ((among >> h & 1) != 0 && (part >> first[h] & 1) == 0) {
                    return false;
                }
            }
            return true;
        }

        /** Whether the HEDGES told can be walked one behind the other from a CORNER. */
        boolean isTrail(int corner, int among) {
            int odd = oddCorners(among);
            boolean fits = odd == 0 || (Integer.bitCount(odd) == 2 && (odd >> corner & 1) != 0);
            return fits && holdsAll(hanging(corner, among), among);
        }
    }

    /**
     * THE TEXT, and how it is read as one of a land. What is read is laid behind the
     * land's counts, and the counts go up only when all of the text stood: so nothing
     * comes of a bad one.
     */
    private static final class Text {
        final char[] signs = new char[MAX_SIGNS];
        int length = 0;
        private int at = 0;
        private int limit = 0;
        private int corners = 0;
        private int hedges = 0;

        boolean append(int v) {
            if (length > MAX_SIGNS - 4) {
                return false;
            }
            for (int shift = 24; shift >= 0; shift -= 8) {
                signs[length] = (char) (v >> shift & 255);
                length++;
            }
            return true;
        }

        /** How many LINES; or -1 - p, and then {@code at} stands at p. */
        int readLines(Land land) {
            at = 0;
            limit = Math.min(length, MAX_LAND_SIGNS);
            corners = land.corners;
            hedges = land.hedges;
            int lines = 0;
            boolean more = true;
            while (more && lines <= MAX_LAND_SIGNS) {
                if (!readLine(land)) {
                    return -1 - at;
                }
                lines++;
                more = skip(';');
            }
            if (at < length) {
                return -1 - at;
            }
            land.corners = corners;
            land.hedges = hedges;
            return lines;
        }

        private boolean readLine(Land land) {
            return signAt() == '@' ? readCorner(land) : readHedge(land);
        }

        private boolean readCorner(Land land) {
            if (corners >= MAX_CORNERS) {
                return false;
            }
            at++;
            int x = digit(9);
            int y = x < 0 ? -1 : digit(9);
            if (y < 0) {
                return false;
            }
            land.x[corners] = x;
            land.y[corners] = y;
            corners++;
            return true;
        }

        private boolean readHedge(Land land) {
            if (hedges >= MAX_HEDGES) {
                return false;
            }
            int first = cornerLetter(-1);
            int second = first < 0 ? -1 : cornerLetter(first);
            int minutes = second < 0 ? -1 : longDigits();
            if (minutes < 0 || !skip(':')) {
                return false;
            }
            int left = digit(FIELDS - 1);
            int right = left < 0 ? -1 : digit(FIELDS - 1);
            int worth = right < 0 ? -1 : marked('w', 1);
            int wind = worth < 0 ? -1 : marked('~', 0);
            if (wind < 0) {
                return false;
            }
            land.first[hedges] = first;
            land.second[hedges] = second;
            land.minutes[hedges] = minutes;
            land.left[hedges] = left;
            land.right[hedges] = right;
            land.worth[hedges] = worth;
            land.wind[hedges] = wind;
            land.gate[hedges] = skip('g');
            hedges++;
            return true;
        }

        private int signAt() {
            return at < limit && at < MAX_SIGNS ? signs[at] : -1;
        }

        private boolean skip(char sign) {
            if (signAt() != sign) {
                return false;
            }
            at++;
            return true;
        }

        private int digit(int most) {
            int v = signAt() - '0';
            if (v < 0 || v > most) {
                return -1;
            }
            at++;
            return v;
        }

        private int cornerLetter(int not) {
            int c = signAt() - 'a';
            if (c < 0 || c >= corners || c == not) {
                return -1;
            }
            at++;
            return c;
        }

        /** A wrong LONG is told at its last digit, which has been read already. */
        private int longDigits() {
            int v = digit(9);
            if (v < 0) {
                return -1;
            }
            int unit = digit(9);
            if (unit >= 0) {
                v = 10 * v + unit;
            }
            if (v < 1 || v > MAX_LONG) {
                at--;
                return -1;
            }
            return v;
        }

        private int marked(char mark, int without) {
            return skip(mark) ? digit(9) : without;
        }
    }

    /** Where one is, when, and on which DAY each HEDGE was walked last. */
    private static final class Spot {
        int corner = 0;
        int time = 0;
        final int[] lastDay = new int[MAX_HEDGES];

        Spot() {
            for (int h = 0; h < MAX_HEDGES; h++) {
                lastDay[h] = NONE;
            }
        }

        void beginAt(int c) {
            corner = c;
            time = 0;
            for (int h = 0; h < MAX_HEDGES; h++) {
                lastDay[h] = NONE;
            }
        }

        void copyFrom(Spot other) {
            corner = other.corner;
            time = other.time;
            for (int h = 0; h < MAX_HEDGES; h++) {
                lastDay[h] = other.lastDay[h];
            }
        }

        int day() {
            return time / DAY_MINUTES;
        }

        boolean isLight() {
            return time % DAY_MINUTES < LIGHT_MINUTES;
        }

        boolean isFresh(Land land, int h) {
            return lastDay[h] == NONE || day() - lastDay[h] >= land.nights;
        }

        int whyNot(Land land, int h) {
            if (!land.touches(h, corner)) {
                return NOT_HERE;
            }
            if (!isFresh(land, h)) {
                return NOT_FRESH;
            }
            if (land.gate[h] && !isLight()) {
                return NOT_LIGHT;
            }
            return time + land.minutesFrom(h, corner) > land.frost ? TOO_LATE : 0;
        }

        int step(Land land, int h) {
            int minutes = land.minutesFrom(h, corner);
            lastDay[h] = day();
            time += minutes;
            corner = land.otherEnd(h, corner);
            return minutes;
        }

        /** The HEDGE with the greatest WORTH of those that can be walked; NONE if none can. */
        int dearest(Land land) {
            int best = NONE;
            for (int h = 0; h < land.hedges; h++) {
                boolean better = best == NONE || land.worth[h] > land.worth[best];
                if (better && whyNot(land, h) == 0) {
                    best = h;
                }
            }
            return best;
        }

        /** False if FROST comes first. */
        boolean toNextDay(Land land) {
            int dawn = (day() + 1) * DAY_MINUTES;
            if (dawn > land.frost) {
                time = Math.max(time, land.frost);
                return false;
            }
            time = dawn;
            return true;
        }
    }

    /** The latest walks, in a ring: what was so ahead of each. */
    private static final class Steps {
        int count = 0;
        private int top = 0;
        private final int[] hedge = new int[MAX_UNDO];
        private final int[] corner = new int[MAX_UNDO];
        private final int[] time = new int[MAX_UNDO];
        private final int[] lastDay = new int[MAX_UNDO];

        void remember(Spot spot, int h) {
            hedge[top] = h;
            corner[top] = spot.corner;
            time[top] = spot.time;
            lastDay[top] = spot.lastDay[h];
            top = (top + 1) % MAX_UNDO;
            count = Math.min(count + 1, MAX_UNDO);
        }

        boolean takeBack(Spot spot) {
            if (count == 0) {
                return false;
            }
            top = (top + MAX_UNDO - 1) % MAX_UNDO;
            count--;
            spot.corner = corner[top];
            spot.time = time[top];
            spot.lastDay[hedge[top]] = lastDay[top];
            return true;
        }
    }

    /** A TOUR that is laid down; its minutes are counted anew, as LONG and WIND change. */
    private static final class Tour {
        boolean laid = false;
        int start = 0;
        int steps = 0;
        final int[] hedges = new int[MAX_TOUR_SIGNS];
        final int[] corner = new int[MAX_TOUR_SIGNS];
        final int[] minute = new int[MAX_TOUR_SIGNS];

        /** The place of the first sign that can't stand there, or -1. */
        static int firstBad(Land land, char[] signs, int length) {
            if (length == 0 || !land.hasCorner(signs[0] - 'a')) {
                return 0;
            }
            int at = signs[0] - 'a';
            for (int p = 1; p < length; p++) {
                int h = signs[p] - 'A';
                if (p >= MAX_TOUR_SIGNS || !land.hasHedge(h) || !land.touches(h, at)) {
                    return p;
                }
                at = land.otherEnd(h, at);
            }
            return -1;
        }

        void lay(char[] signs, int length) {
            laid = true;
            start = signs[0] - 'a';
            steps = length - 1;
            for (int k = 0; k < steps; k++) {
                hedges[k] = signs[k + 1] - 'A';
            }
        }

        int bits() {
            int bits = 0;
            for (int k = 0; k < steps; k++) {
                bits |= 1 << hedges[k];
            }
            return bits;
        }

        /** Which CORNER one is at, and when, ahead of each step and at the end. */
        int schedule(Land land) {
            corner[0] = start;
            minute[0] = 0;
            for (int k = 0; k < steps; k++) {
                int h = hedges[k];
                minute[k + 1] = minute[k] + land.minutesFrom(h, corner[k]);
                corner[k + 1] = land.otherEnd(h, corner[k]);
            }
            return minute[steps];
        }

        /**
         * The first minute at which two are at one CORNER, times 16, and that CORNER;
         * -1 if there is none. Both are scheduled already.
         */
        static int firstMeeting(Tour one, Tour other, int wait) {
            int first = FOREVER;
            int where = 0;
            for (int k = 0; k <= one.steps; k++) {
                for (int l = 0; l <= other.steps; l++) {
                    int minute = one.corner[k] == other.corner[l] ? minuteOfBoth(one, k, other, l, wait) : FOREVER;
                    if (minute < first) {
                        first = minute;
                        where = one.corner[k];
                    }
                }
            }
            return first < FOREVER ? first << 4 | where : -1;
        }

        /** The first minute at which one is at its place k while the other is at its place l. */
        private static int minuteOfBoth(Tour one, int k, Tour other, int l, int wait) {
            int came = l == 0 ? 0 : wait + other.minute[l];
            int went = l == other.steps ? FOREVER : wait + other.minute[l];
            int until = k == one.steps ? FOREVER : one.minute[k];
            int from = Math.max(one.minute[k], came);
            return from <= Math.min(until, went) ? from : FOREVER;
        }
    }

    /** All HEDGES, each just once. */
    private static final class Rounds {
        private static final int SETS = 1 << MAX_CORNERS;

        private final int[] outward = new int[MAX_CORNERS];
        private final int[] inward = new int[MAX_CORNERS];
        private final Numbers pairCost = new Numbers(3 * SETS);

        /** For when all of them can be walked so from the CORNER. */
        int leastTrail(Land land, int corner, Row row) {
            row.clear();
            int open = land.everyHedge();
            int at = corner;
            int minutes = 0;
            for (int step = 0; step < land.hedges; step++) {
                int h = leastStep(land, at, open);
                if (h < 0) {
                    return minutes;
                }
                row.add(h);
                minutes += land.minutesFrom(h, at);
                at = land.otherEnd(h, at);
                open &= ~(1 << h);
            }
            return minutes;
        }

        private static int leastStep(Land land, int at, int open) {
            for (int h = 0; h < land.hedges; h++) {
                if ((open >> h & 1) != 0 && land.touches(h, at)
                        && land.isTrail(land.otherEnd(h, at), open & ~(1 << h))) {
                    return h;
                }
            }
            return -1;
        }

        int windOf(Land land, int turned) {
            int sum = 0;
            for (int h = 0; h < land.hedges; h++) {
                if ((turned >> h & 1) != 0) {
                    sum += land.wind[h];
                }
            }
            return sum;
        }

        /**
         * The HEDGES that a cheapest round walks from their second CORNER. Where all
         * hang together, any turning that leaves each CORNER as often as it comes to
         * it is that of a round.
         */
        int cheapestTurns(Land land) {
            sortEnds(land);
            int best = 0;
            int least = FOREVER;
            for (int turned = 0; turned <= land.everyHedge(); turned++) {
                if (isBalanced(land, turned)) {
                    int wind = windOf(land, turned);
                    if (wind < least) {
                        least = wind;
                        best = turned;
                    }
                }
            }
            return best;
        }

        private void sortEnds(Land land) {
            for (int c = 0; c < land.corners; c++) {
                outward[c] = 0;
                inward[c] = 0;
            }
            for (int h = 0; h < land.hedges; h++) {
                outward[land.first[h]] |= 1 << h;
                inward[land.second[h]] |= 1 << h;
            }
        }

        private boolean isBalanced(Land land, int turned) {
            for (int c = 0; c < land.corners; c++) {
                int leave = (outward[c] & ~turned) | (inward[c] & turned);
                int ends = Integer.bitCount(outward[c] | inward[c]);
                if (2 * Integer.bitCount(leave) != ends) {
                    return false;
                }
            }
            return true;
        }

        /**
         * The least GRASS between pairs of odd CORNERS, so many of them in none. A
         * pair of another CORNER would make that one odd.
         */
        int leastGrass(Land land, int alone, Row row) {
            int odd = land.oddCorners(land.everyHedge());
            for (int without = 0; without <= alone; without++) {
                for (int set = 0; set < 1 << land.corners; set++) {
                    pairCost.put(without * SETS + set, (set & ~odd) == 0 ? costOf(land, set, without) : FOREVER);
                }
            }
            tellPairs(land, odd, alone, row);
            return pairCost.at(alone * SETS + odd);
        }

        private int costOf(Land land, int set, int without) {
            if (set == 0) {
                return without == 0 ? 0 : FOREVER;
            }
            int a = lowestOf(set);
            int others = set & ~(1 << a);
            int least = without == 0 ? FOREVER : pairCost.at((without - 1) * SETS + others);
            for (int b = a + 1; b < land.corners; b++) {
                if ((others >> b & 1) != 0) {
                    least = Math.min(least, costWithPair(land, a, b, others, without));
                }
            }
            return least;
        }

        private static int lowestOf(int set) {
            for (int c = 0; c < MAX_CORNERS; c++) {
                if ((set >> c & 1) != 0) {
                    return c;
                }
            }
            return 0;
        }

        private int costWithPair(Land land, int a, int b, int others, int without) {
            int rest = pairCost.at(without * SETS + (others & ~(1 << b)));
            return Math.min(FOREVER, rest + land.grassBetween(a, b));
        }

        /** A pair with the lowest CORNER makes a lesser row than leaving that one alone. */
        private void tellPairs(Land land, int odd, int alone, Row row) {
            row.clear();
            int set = odd;
            int without = alone;
            for (int a = 0; a < land.corners; a++) {
                if ((set >> a & 1) != 0) {
                    int b = partnerOf(land, a, set, without);
                    set &= ~(1 << a);
                    if (b < 0) {
                        without = Math.max(0, without - 1);
                    } else {
                        set &= ~(1 << b);
                        row.add(a);
                        row.add(b);
                    }
                }
            }
        }

        private int partnerOf(Land land, int a, int set, int without) {
            int others = set & ~(1 << a);
            for (int b = a + 1; b < land.corners; b++) {
                if ((others >> b & 1) != 0
                        && costWithPair(land, a, b, others, without) == pairCost.at(without * SETS + set)) {
                    return b;
                }
            }
            return -1;
        }
    }

    /**
     * A number of 0 .. FOREVER for each place, four of them in a long: the room that
     * all calls of a run share is counted by elements.
     */
    private static final class Numbers {
        private final int places;
        private final long[] fours;

        Numbers(int size) {
            places = Math.max(0, size);
            fours = new long[places / 4 + 1];
        }

        void fillWithForever(int size) {
            for (int k = 0; k <= size / 4 && k < fours.length; k++) {
                fours[k] = -1L;
            }
        }

        int at(int place) {
            if (place < 0 || place >= places) {
                return FOREVER;
            }
            return (int) (fours[place >> 2] >> ((place & 3) << 4)) & FOREVER;
        }

        void put(int place, int v) {
            if (place >= 0 && place < places) {
                int shift = (place & 3) << 4;
                long others = fours[place >> 2] & ~((long) FOREVER << shift);
                fours[place >> 2] = others | (long) Math.min(v, FOREVER) << shift;
            }
        }
    }

    /** Walks over some of the HEDGES, each at most once. */
    private static final class Trips {
        /**
         * Of each set of HEDGES the fewest minutes of a walk over all of them, times
         * 16, and the CORNER where it ends; FOREVER if there is none. Where it ends
         * follows from the set: there and where it began alone can an odd number of
         * them end.
         */
        private final Numbers fewest = new Numbers(1 << MAX_HEDGES);
        private int sets = 1;

        void explore(Land land, int corner, int limit) {
            sets = 1 << land.hedges;
            fewest.fillWithForever(sets);
            fewest.put(0, corner);
            for (int set = 0; set < sets; set++) {
                int entry = fewest.at(set);
                if (entry < FOREVER) {
                    extend(land, set, entry, limit);
                }
            }
        }

        private void extend(Land land, int set, int entry, int limit) {
            int at = entry & 15;
            int before = entry >> 4;
            for (int h = 0; h < land.hedges; h++) {
                if ((set >> h & 1) == 0 && land.touches(h, at)) {
                    int minutes = before + land.minutesFrom(h, at);
                    int longer = minutes << 4 | land.otherEnd(h, at);
                    int larger = set | 1 << h;
                    if (minutes <= limit && longer < fewest.at(larger)) {
                        fewest.put(larger, longer);
                    }
                }
            }
        }

        int minutesOf(int set) {
            return fewest.at(set) >> 4;
        }

        int dearest(Land land, int corner, boolean back) {
            int best = 0;
            int most = 0;
            for (int set = 1; set < sets; set++) {
                int entry = fewest.at(set);
                if (entry < FOREVER && (!back || (entry & 15) == corner)) {
                    int worth = land.worthOf(set);
                    if (worth > most || (worth == most && minutesOf(set) < minutesOf(best))) {
                        most = worth;
                        best = set;
                    }
                }
            }
            return best;
        }

        int quickest(Land land, int wish) {
            int best = -1;
            int least = FOREVER;
            for (int set = 0; set < sets; set++) {
                int entry = fewest.at(set);
                if (entry < FOREVER && entry >> 4 < least && land.worthOf(set) >= wish) {
                    least = entry >> 4;
                    best = set;
                }
            }
            return best;
        }
    }

    /**
     * The walk through all GATES. Parts here are what hangs together by the other
     * HEDGES; the GATES walked tell which part one is in, and k GATES leave so few
     * other HEDGES that a part has at most 15 - k CORNERS: so the fewest minutes of
     * all sets of GATES, for each CORNER one may be at, fit into one row.
     */
    private static final class GateWalk {
        private final int[] gateHedge = new int[MAX_HEDGES];
        private int gateCount = 0;
        private int stride = 1;
        private final int[] part = new int[MAX_CORNERS];
        private final int[] rank = new int[MAX_CORNERS];
        private final int[][] path = new int[MAX_CORNERS][MAX_CORNERS];
        private final Numbers fewest = new Numbers(1 << MAX_HEDGES);

        void prepare(Land land) {
            gateCount = 0;
            for (int h = 0; h < land.hedges; h++) {
                if (land.gate[h]) {
                    gateHedge[gateCount] = h;
                    gateCount++;
                }
            }
            stride = MAX_HEDGES + 1 - gateCount;
            layPaths(land);
            shortenPaths(land);
            for (int c = 0; c < land.corners; c++) {
                numberInPart(c);
            }
        }

        private void layPaths(Land land) {
            for (int a = 0; a < land.corners; a++) {
                for (int b = 0; b < land.corners; b++) {
                    path[a][b] = a == b ? 0 : FOREVER;
                }
            }
            for (int h = 0; h < land.hedges; h++) {
                if (!land.gate[h]) {
                    int a = land.first[h];
                    int b = land.second[h];
                    path[a][b] = Math.min(path[a][b], land.minutesFrom(h, a));
                    path[b][a] = Math.min(path[b][a], land.minutesFrom(h, b));
                }
            }
        }

        private void shortenPaths(Land land) {
            for (int by = 0; by < land.corners; by++) {
                for (int a = 0; a < land.corners; a++) {
                    for (int b = 0; b < land.corners; b++) {
                        path[a][b] = Math.min(path[a][b], path[a][by] + path[by][b]);
                    }
                }
            }
        }

        private void numberInPart(int c) {
            part[c] = 1 << c;
            rank[c] = 0;
            for (int lower = c - 1; lower >= 0; lower--) {
                if (path[lower][c] < FOREVER) {
                    part[c] = 1 << lower;
                    rank[c]++;
                }
            }
        }

        /** Where a set that can't be walked leads is in two parts, or more. */
        private int partAfter(Land land, int corner, int walked) {
            int bits = part[corner];
            for (int g = 0; g < gateCount; g++) {
                if ((walked >> g & 1) != 0) {
                    int h = gateHedge[g];
                    bits ^= part[land.first[h]] ^ part[land.second[h]];
                }
            }
            return bits;
        }

        /** -1 if it can't be. */
        int fewestMinutes(Land land, int corner) {
            int all = (1 << gateCount) - 1;
            if (Integer.bitCount(partAfter(land, corner, all)) != 1) {
                return -1;
            }
            for (int walked = all; walked >= 0; walked--) {
                int here = partAfter(land, corner, walked);
                for (int c = 0; c < land.corners; c++) {
                    if (part[c] == here) {
                        fewest.put(placeOf(walked, c), walked == all ? 0 : bestOn(land, walked, c));
                    }
                }
            }
            int minutes = fewest.at(placeOf(0, corner));
            return minutes < FOREVER ? minutes : -1;
        }

        private int placeOf(int walked, int c) {
            return walked * stride + rank[c];
        }

        private int bestOn(Land land, int walked, int c) {
            int least = FOREVER;
            for (int g = 0; g < gateCount; g++) {
                if ((walked >> g & 1) == 0) {
                    int h = gateHedge[g];
                    least = Math.min(least, minutesBy(land, walked, c, g, land.first[h]));
                    least = Math.min(least, minutesBy(land, walked, c, g, land.second[h]));
                }
            }
            return least;
        }

        /** The fewest from c till all is walked, if a GATE comes next, from one of its CORNERS. */
        private int minutesBy(Land land, int walked, int c, int g, int from) {
            if (path[c][from] >= FOREVER) {
                return FOREVER;
            }
            int h = gateHedge[g];
            int then = fewest.at(placeOf(walked | 1 << g, land.otherEnd(h, from)));
            return Math.min(FOREVER, path[c][from] + land.minutesFrom(h, from) + then);
        }

        /**
         * All CORNERS at which a best walk with the row so far may be are kept: an
         * order of GATES may leave open from which side one was walked.
         */
        void tellLeastOrder(Land land, int corner, Row row) {
            row.clear();
            int at = 1 << corner;
            int walked = 0;
            for (int step = 0; step < gateCount; step++) {
                boolean found = false;
                for (int g = 0; g < gateCount && !found; g++) {
                    int then = (walked >> g & 1) == 0 ? endsOfBest(land, walked, at, g) : 0;
                    if (then != 0) {
                        found = true;
                        row.add(gateHedge[g]);
                        walked |= 1 << g;
                        at = then;
                    }
                }
            }
        }

        private int endsOfBest(Land land, int walked, int at, int g) {
            int h = gateHedge[g];
            int ends = 0;
            for (int c = 0; c < land.corners; c++) {
                if ((at >> c & 1) != 0) {
                    int best = fewest.at(placeOf(walked, c));
                    if (minutesBy(land, walked, c, g, land.first[h]) == best) {
                        ends |= 1 << land.second[h];
                    }
                    if (minutesBy(land, walked, c, g, land.second[h]) == best) {
                        ends |= 1 << land.first[h];
                    }
                }
            }
            return ends;
        }
    }

    /**
     * What is heard. A way is a number of two bits for each FIELD, the first FIELD
     * highest: so ways come in the order of their digits.
     */
    private static final class Ears {
        int count = 0;
        /** The least of the ways found last. */
        int leastWay = 0;
        private final long[] holding = new long[WAYS / 64];
        private final int[] hedge = new int[MAX_HEARINGS];
        private final int[] cows = new int[MAX_HEARINGS];
        private final int[] tally = new int[2 * MAX_COWS + 1];

        boolean hear(int h, int n) {
            if (count >= MAX_HEARINGS) {
                return false;
            }
            hedge[count] = h;
            cows[count] = n;
            count++;
            return true;
        }

        static int cowsIn(int way, int field) {
            return way >> 2 * (FIELDS - 1 - field) & 3;
        }

        static int asDigits(int way) {
            int number = 0;
            for (int field = 0; field < FIELDS; field++) {
                number = 10 * number + cowsIn(way, field);
            }
            return number;
        }

        private static int cowsOver(Land land, int h, int way) {
            return cowsIn(way, land.left[h]) + cowsIn(way, land.right[h]);
        }

        private boolean isLie(Land land, int way, int k) {
            return cowsOver(land, hedge[k], way) != cows[k];
        }

        /** The hearings (bits) that a way makes lies. */
        private int liesOf(Land land, int way) {
            int bits = 0;
            for (int k = 0; k < count; k++) {
                if (isLie(land, way, k)) {
                    bits |= 1 << k;
                }
            }
            return bits;
        }

        private boolean allHold(Land land, int way, int among) {
            for (int k = 0; k < count; k++) {
                if ((among >> k & 1) != 0 && isLie(land, way, k)) {
                    return false;
                }
            }
            return true;
        }

        private int all() {
            return (1 << count) - 1;
        }

        int findWays(Land land) {
            for (int k = 0; k < WAYS / 64; k++) {
                holding[k] = 0;
            }
            int found = 0;
            for (int way = WAYS - 1; way >= 0; way--) {
                if (allHold(land, way, all())) {
                    holding[way >> 6] |= 1L << (way & 63);
                    leastWay = way;
                    found++;
                }
            }
            return found;
        }

        private boolean isFound(int way) {
            return (holding[way >> 6] >> (way & 63) & 1) != 0;
        }

        int differences() {
            int bits = 0;
            for (int way = 0; way < WAYS; way++) {
                if (isFound(way)) {
                    bits |= way ^ leastWay;
                }
            }
            return bits;
        }

        int mostLeft(Land land, int h) {
            for (int n = 0; n <= 2 * MAX_COWS; n++) {
                tally[n] = 0;
            }
            int most = 0;
            for (int way = 0; way < WAYS; way++) {
                if (isFound(way)) {
                    int n = cowsOver(land, h, way);
                    tally[n]++;
                    most = Math.max(most, tally[n]);
                }
            }
            return most;
        }

        int fewestLies(Land land) {
            int best = all();
            for (int way = 0; way < WAYS; way++) {
                int bits = liesOf(land, way);
                int fewer = Integer.bitCount(bits) - Integer.bitCount(best);
                if (fewer < 0 || (fewer == 0 && bits < best)) {
                    best = bits;
                }
            }
            return best;
        }

        private boolean hasWay(Land land, int among) {
            for (int way = 0; way < WAYS; way++) {
                if (allHold(land, way, among)) {
                    return true;
                }
            }
            return false;
        }

        int firstWithoutWays(Land land) {
            for (int k = 0; k < count; k++) {
                if (!hasWay(land, (2 << k) - 1)) {
                    return k;
                }
            }
            return -1;
        }

        int firstAgainst(Land land, int hearing) {
            for (int k = 0; k < hearing; k++) {
                if (!hasWay(land, 1 << k | 1 << hearing)) {
                    return k;
                }
            }
            return NONE;
        }
    }
}
