import java.util.Arrays;

/** A corner at which the wind elects: whoever's umbrella goes first is in. */
public final class ElectingWind {
    public static final int NONE = -1, BAD = -2, NOT = -3, FULL = -4;

    private static final int CORNER = 0, GUSTS = 1, CANDIDATES = 2, TEXTS = 3;
    private static final int CORNER_BYTES = 29, GUST_BYTES = 24, CANDIDATE_BYTES = 39;
    private static final int MOST_BYTES = 39;
    private static final int MOST_SIDE = 5, MOST_CELLS = 25;
    private static final int MOST_MINUTES = 12, MOST_CANDIDATES = 8;
    private static final int NORTH = 0, EAST = 1, SOUTH = 2, WEST = 3, WAYS = 4;
    private static final int STILL = 0, HALF = 1, WHOLE = 2, ARCH = 4;
    private static final int LOW = 0, UPRIGHT = 1, ACROSS = 2;
    private static final int MOST_RIBS = 9, FORCES = 10, POSSIBLE_GUSTS = 40;
    private static final int MOST_SEEN = 8, NOBODY = 8;
    private static final int SIXTEENTHS = 16, BITS_OF_SIXTEENTHS = 4;
    private static final int SHEETS = 4, FORMS = 3, BYTES = 0, SHORTS = 1, MOST_ITEMS = 60;
    private static final int NULL = 1, INDEX = 2, CAST = 3, STORE = 4, SIZE = 5;

    private final Script[] texts = new Script[TEXTS];
    private final int[] faults = new int[TEXTS];
    private final Course told = new Course();
    // What would be is tried here, so that no call makes a new course.
    private final Course trial = new Course();
    private final Sightings sightings = new Sightings();
    private final Sheet[] sheets = new Sheet[SHEETS];
    private int latestFinding = 0;

    // What was reckoned last is kept, as digest() asks for the same several times over.
    private int inquiredMinute = NONE;
    private long mayHaveBlown = 0L;
    private final int[] tallies = new int[MOST_MINUTES * (NOBODY + 1)];
    private int weighedCalm = NONE;
    private final long[] chances = new long[MOST_CANDIDATES];
    private final long[] weights = new long[MOST_MINUTES + 1];

    public ElectingWind() {
        texts[CORNER] = new Script(CORNER_BYTES);
        texts[GUSTS] = new Script(GUST_BYTES);
        texts[CANDIDATES] = new Script(CANDIDATE_BYTES);
        for (int s = 0; s < SHEETS; s++) {
            sheets[s] = new Sheet();
        }
        for (int text = 0; text < TEXTS; text++) {
            faults[text] = NONE;
        }
    }

    // ---- the corner, gusts, candidates

    public int type(int text, int b) {
        if (!isText(text) || b < 0 || b > 255) {
            return BAD;
        }
        if (texts[text].isFull()) {
            return FULL;
        }
        texts[text].append(b);
        retell(text);
        return texts[text].length();
    }

    public int wipe(int text) {
        if (!isText(text)) {
            return BAD;
        }
        int had = texts[text].length();
        texts[text].shorten(had);
        retell(text);
        return had;
    }

    public int undo(int text) {
        if (!isText(text)) {
            return BAD;
        }
        if (texts[text].length() == 0) {
            return NOT;
        }
        texts[text].shorten(1);
        retell(text);
        return texts[text].length();
    }

    public int fault(int text) {
        return isText(text) ? faults[text] : BAD;
    }

    public int cell(int cell) {
        if (cell < 0 || cell >= MOST_CELLS) {
            return BAD;
        }
        if (!told.scene.isCell(cell)) {
            return NONE;
        }
        return told.scene.isWall(cell) ? 1 : 0;
    }

    public int gust(int minute, int what) {
        if (!isMinute(minute) || what < 0 || what > 1) {
            return BAD;
        }
        return what == 0 ? told.scene.from[minute] : told.scene.force[minute];
    }

    public int candidate(int candidate, int what) {
        if (!isCandidate(candidate)) {
            return BAD;
        }
        switch (what) {
            case 0: return told.scene.at[candidate];
            case 1: return told.scene.ribs[candidate];
            case 2: return told.scene.held[candidate];
            case 3: return told.isSomewhere(candidate) ? 1 : 0;
            default: return BAD;
        }
    }

    // ---- winds, terms

    public int wind(int minute, int cell) {
        if (!isMinute(minute) || !told.scene.isCell(cell)) {
            return BAD;
        }
        return told.windOn(minute, cell);
    }

    public int ribs(int minute, int candidate) {
        if (!isMinute(minute) || !isCandidate(candidate)) {
            return BAD;
        }
        return told.ribsAhead(minute, candidate);
    }

    public int overturns(int candidate, int what) {
        if (!isCandidate(candidate)) {
            return BAD;
        }
        switch (what) {
            case 0: return told.turnsWhen(candidate);
            case 1: return told.isReturned(candidate) ? 1 : 0;
            case 2: return told.isElected(candidate) ? 1 : 0;
            case 3: return told.minutesBehindWhichIn(candidate);
            default: return BAD;
        }
    }

    public int in(int minute) {
        return isMinute(minute) ? told.whoIsIn(minute) : BAD;
    }

    public int first(int what) {
        if (what < 0 || what > 1) {
            return BAD;
        }
        for (int minute = 0; minute < told.scene.minutes; minute++) {
            int who = told.whoIsIn(minute);
            if (who != NONE) {
                return what == 0 ? minute : who;
            }
        }
        return NONE;
    }

    public int lulls() {
        return told.minutesBehindWhichIn(NONE);
    }

    // ---- plans

    public int stand(int candidate, int what) {
        if (!isCandidate(candidate) || what < 0 || what > 1) {
            return BAD;
        }
        trial.scene.tellAs(told.scene);
        int place = NONE;
        int soonest = NONE;
        for (int cell = 0; cell < told.scene.cells; cell++) {
            if (!told.isFreeFor(candidate, cell)) {
                continue;
            }
            trial.scene.at[candidate] = cell;
            int minute = trial.runUntilTurned(candidate);
            if (minute != NONE && (soonest == NONE || minute < soonest)) {
                soonest = minute;
                place = cell;
            }
        }
        return what == 0 ? place : soonest;
    }

    public int shield(int candidate) {
        if (!isCandidate(candidate)) {
            return BAD;
        }
        if (told.turnsWhen(candidate) == NONE) {
            return NOT;
        }
        for (int other = 0; other < told.scene.candidates; other++) {
            int cell = other == candidate ? NONE : placeToShield(candidate, other);
            if (cell != NONE) {
                return 32 * other + cell;
            }
        }
        return NONE;
    }

    public int move(int what) {
        if (what < 0 || what > 1) {
            return BAD;
        }
        int many = 0;
        int least = NONE;
        for (int cell = 0; cell < told.scene.cells; cell++) {
            for (int way = 0; way < WAYS; way++) {
                if (movesAnotherIn(cell, way)) {
                    many++;
                    least = least == NONE ? 4 * cell + way : least;
                }
            }
        }
        return what == 0 ? many : least;
    }

    public int bribe(int candidate) {
        if (!isCandidate(candidate)) {
            return BAD;
        }
        trial.scene.tellAs(told.scene);
        int ribs = told.scene.ribs[candidate];
        for (int fewer = 0; fewer < ribs; fewer++) {
            trial.scene.ribs[candidate] = ribs - fewer;
            trial.run();
            if (trial.whoIsInLast() == candidate) {
                return fewer;
            }
        }
        return NONE;
    }

    /** The least cell at which the other one keeps the candidate's umbrella from turning; NONE. */
    private int placeToShield(int candidate, int other) {
        trial.scene.tellAs(told.scene);
        for (int cell = 0; cell < told.scene.cells; cell++) {
            if (!told.isFree(cell)) {
                continue;
            }
            trial.scene.at[other] = cell;
            if (trial.runUntilTurned(candidate) == NONE) {
                return cell;
            }
        }
        return NONE;
    }

    private boolean movesAnotherIn(int cell, int way) {
        int goal = told.scene.beside(cell, way);
        if (!told.scene.isWall(cell) || !told.isFree(goal)) {
            return false;
        }
        trial.scene.tellAs(told.scene);
        trial.scene.wall[cell] = 0;
        trial.scene.wall[goal] = 1;
        trial.scene.survey();
        trial.run();
        return trial.whoIsInLast() != told.whoIsInLast();
    }

    // ---- seen, calms, weather

    public int seen(int minute, int candidate) {
        if (!sightings.isSighting(minute, candidate)) {
            return BAD;
        }
        if (sightings.isFull()) {
            return FULL;
        }
        sightings.append(minute, candidate);
        inquiredMinute = NONE;
        return sightings.many;
    }

    public int forget() {
        int had = sightings.many;
        sightings.many = 0;
        inquiredMinute = NONE;
        return had;
    }

    public int read(int s) {
        if (!isSheet(s)) {
            return BAD;
        }
        if (sheets[s].isLost()) {
            return finding(NULL);
        }
        int pairs = sheets[s].size / 2;
        for (int pair = 0; pair < pairs; pair++) {
            if (seen(sheets[s].item(2 * pair), sheets[s].item(2 * pair + 1)) < 0) {
                return pair;
            }
        }
        return pairs;
    }

    public int blew(int minute, int i) {
        if (!isMinute(minute) || i < NONE || i >= POSSIBLE_GUSTS) {
            return BAD;
        }
        inquire(minute);
        int many = 0;
        for (int gust = 0; gust < POSSIBLE_GUSTS; gust++) {
            if (((mayHaveBlown >> gust) & 1L) == 1L) {
                if (many == i) {
                    return gust;
                }
                many++;
            }
        }
        return i == NONE ? many : NONE;
    }

    public int had(int candidate) {
        if (!isCandidate(candidate)) {
            return BAD;
        }
        trial.scene.tellAs(told.scene);
        int bits = 0;
        for (int ribs = 1; ribs <= MOST_RIBS; ribs++) {
            trial.scene.ribs[candidate] = ribs;
            trial.run();
            if (sightings.comeOutSo(trial)) {
                bits |= 1 << ribs;
            }
        }
        return bits;
    }

    public int ask(int minute) {
        if (!isMinute(minute)) {
            return BAD;
        }
        inquire(minute);
        int best = 0;
        for (int other = 1; other < told.scene.minutes && other < MOST_MINUTES; other++) {
            if (greatestTally(other) < greatestTally(best)) {
                best = other;
            }
        }
        return best;
    }

    public long calm(int c, int candidate, int what) {
        if (c < 0 || c > SIXTEENTHS || !isCandidate(candidate) || what < 0 || what > 1) {
            return Long.MIN_VALUE - BAD;
        }
        weighCalms(c);
        long above = chances[candidate];
        int halvings = BITS_OF_SIXTEENTHS * told.scene.minutes;
        if (above == 0L) {
            return what == 0 ? 0L : 1L;
        }
        // What is below is a power of two, so halving alone brings it to lowest terms.
        while (halvings > 0 && (above & 1L) == 0L) {
            above >>= 1;
            halvings--;
        }
        return what == 0 ? above : 1L << halvings;
    }

    public int weather(int seed, int n, int what) {
        if (n < 1 || n > MOST_MINUTES || what < 0 || what > 1) {
            return BAD;
        }
        trial.scene.tellAs(told.scene);
        trial.scene.minutes = n;
        int lots = seed;
        for (int minute = 0; minute < n; minute++) {
            lots = nextLots(lots);
            trial.scene.from[minute] = (lots >>> 16) % WAYS;
            lots = nextLots(lots);
            trial.scene.force[minute] = (lots >>> 16) % FORCES;
        }
        trial.run();
        return what == 0 ? trial.whoIsInLast() : trial.manyTurned();
    }

    private static int nextLots(int seed) {
        return 1103515245 * seed + 12345;
    }

    /** blew() and ask() go through the same forty gusts, so one trial of them answers both. */
    private void inquire(int minute) {
        if (inquiredMinute == minute || !isMinute(minute)) {
            return;
        }
        Arrays.fill(tallies, 0);
        mayHaveBlown = 0L;
        trial.scene.tellAs(told.scene);
        trial.start();
        trial.runOnFrom(0);
        for (int gust = 0; gust < POSSIBLE_GUSTS; gust++) {
            trial.scene.from[minute] = gust / FORCES;
            trial.scene.force[minute] = gust % FORCES;
            // What is ahead of the minute stays as it is, whatever blows in it.
            trial.runOnFrom(minute);
            if (sightings.comeOutSo(trial)) {
                mayHaveBlown |= 1L << gust;
                tallyTrial();
            }
        }
        inquiredMinute = minute;
    }

    private void tallyTrial() {
        for (int minute = 0; minute < trial.scene.minutes && minute < MOST_MINUTES; minute++) {
            int who = trial.whoIsIn(minute);
            int column = who == NONE ? NOBODY : who;
            tallies[minute * (NOBODY + 1) + column]++;
        }
    }

    private int greatestTally(int minute) {
        int greatest = 0;
        for (int column = 0; column <= NOBODY; column++) {
            greatest = Math.max(greatest, tallies[minute * (NOBODY + 1) + column]);
        }
        return greatest;
    }

    /** All candidates are weighed at once, as the calms are the same for each of them. */
    private void weighCalms(int c) {
        if (weighedCalm == c) {
            return;
        }
        Arrays.fill(chances, 0L);
        trial.scene.tellAs(told.scene);
        trial.start();
        weights[0] = 1L;
        int minutes = Math.min(told.scene.minutes, MOST_MINUTES);
        for (int pattern = 0; pattern < 1 << minutes; pattern++) {
            // Minute 0 is the highest bit, so that most patterns share their beginning with the one before.
            int changed = pattern == 0 ? 0 : minutes - 1 - lowestBit(pattern);
            for (int minute = changed; minute < minutes; minute++) {
                boolean blows = ((pattern >> (minutes - 1 - minute)) & 1) == 1;
                trial.scene.force[minute] = blows ? told.scene.force[minute] : 0;
                trial.pass(minute);
                weights[minute + 1] = weights[minute] * (blows ? c : SIXTEENTHS - c);
            }
            trial.end();
            int who = trial.whoIsInLast();
            if (who >= 0 && who < MOST_CANDIDATES) {
                chances[who] += weights[minutes];
            }
        }
        weighedCalm = c;
    }

    private static int lowestBit(int pattern) {
        return Integer.bitCount((pattern & -pattern) - 1);
    }

    // ---- sheets

    public int sheet(int s, int form, int n) {
        if (!isSheet(s) || !isForm(form) || n > MOST_ITEMS) {
            return BAD;
        }
        if (n < 0) {
            return finding(SIZE);
        }
        sheets[s].renew(form, n);
        return n;
    }

    public int lose(int s) {
        if (!isSheet(s)) {
            return BAD;
        }
        if (sheets[s].isLost()) {
            return finding(NULL);
        }
        int had = sheets[s].size;
        sheets[s].discard();
        return had;
    }

    public int put(int s, int form, int i, int v) {
        if (!isSheet(s) || !isForm(form)) {
            return BAD;
        }
        int hindrance = sheets[s].hindrance(form, i);
        if (hindrance != 0) {
            return finding(hindrance);
        }
        sheets[s].setItem(i, v);
        return 1;
    }

    public int get(int s, int form, int i) {
        if (!isSheet(s) || !isForm(form)) {
            return Integer.MIN_VALUE;
        }
        int hindrance = sheets[s].hindrance(form, i);
        if (hindrance != 0) {
            finding(hindrance);
            return Integer.MIN_VALUE;
        }
        return sheets[s].item(i);
    }

    public int copy(int s, int i, int t, int j, int n) {
        if (!isSheet(s) || !isSheet(t)) {
            return BAD;
        }
        if (sheets[s].isLost() || sheets[t].isLost()) {
            return finding(NULL);
        }
        if (sheets[s].form != sheets[t].form) {
            return finding(STORE);
        }
        if (!sheets[s].hasItems(i, n) || !sheets[t].hasItems(j, n)) {
            return finding(INDEX);
        }
        System.arraycopy(sheets[s].items, i, sheets[t].items, j, n);
        return 1;
    }

    public int write(int minute, int s) {
        if (!isMinute(minute) || !isSheet(s)) {
            return BAD;
        }
        if (sheets[s].isLost()) {
            return finding(NULL);
        }
        int many = Math.min(sheets[s].size, told.scene.cells);
        for (int cell = 0; cell < many; cell++) {
            sheets[s].setItem(cell, told.windOn(minute, cell));
        }
        return many;
    }

    public int count(int what) {
        switch (what) {
            case 0: return told.scene.cells;
            case 1: return told.scene.minutes;
            case 2: return told.scene.candidates;
            case 3: return texts[CORNER].length();
            case 4: return texts[GUSTS].length();
            case 5: return texts[CANDIDATES].length();
            case 6: return told.manyTurned();
            case 7: return sightings.many;
            case 8: return latestFinding;
            default: return BAD;
        }
    }

    public long digest() {
        long h = 17L;
        for (int what = 0; what <= 7; what++) {
            h = 31L * h + count(what);
        }
        for (int text = 0; text < TEXTS; text++) {
            h = 31L * h + fault(text);
        }
        for (int cell = 0; cell < told.scene.cells; cell++) {
            h = 31L * h + cell(cell);
        }
        for (int minute = 0; minute < told.scene.minutes; minute++) {
            h = digestMinute(h, minute);
        }
        for (int candidate = 0; candidate < told.scene.candidates; candidate++) {
            h = digestCandidate(h, candidate);
        }
        h = 31L * h + first(0);
        h = 31L * h + first(1);
        h = 31L * h + lulls();
        h = 31L * h + move(0);
        h = 31L * h + move(1);
        h = 31L * h + weather(7, 9, 0);
        h = 31L * h + weather(7, 9, 1);
        return h;
    }

    private long digestMinute(long before, int minute) {
        long h = before;
        h = 31L * h + gust(minute, 0);
        h = 31L * h + gust(minute, 1);
        h = 31L * h + in(minute);
        h = 31L * h + ask(minute);
        h = 31L * h + blew(minute, NONE);
        h = 31L * h + blew(minute, 0);
        for (int cell = 0; cell < told.scene.cells; cell++) {
            h = 31L * h + wind(minute, cell);
        }
        for (int candidate = 0; candidate < told.scene.candidates; candidate++) {
            h = 31L * h + ribs(minute, candidate);
        }
        return h;
    }

    private long digestCandidate(long before, int candidate) {
        long h = before;
        for (int what = 0; what <= 3; what++) {
            h = 31L * h + candidate(candidate, what);
        }
        for (int what = 0; what <= 3; what++) {
            h = 31L * h + overturns(candidate, what);
        }
        h = 31L * h + stand(candidate, 0);
        h = 31L * h + stand(candidate, 1);
        h = 31L * h + shield(candidate);
        h = 31L * h + bribe(candidate);
        h = 31L * h + had(candidate);
        h = 31L * h + calm(5, candidate, 0);
        h = 31L * h + calm(5, candidate, 1);
        return h;
    }

    private static boolean isText(int text) {
        return text >= 0 && text < TEXTS;
    }

    private static boolean isSheet(int s) {
        return s >= 0 && s < SHEETS;
    }

    private static boolean isForm(int form) {
        return form >= 0 && form < FORMS;
    }

    private boolean isMinute(int minute) {
        return minute >= 0 && minute < told.scene.minutes && minute < MOST_MINUTES;
    }

    private boolean isCandidate(int candidate) {
        return candidate >= 0 && candidate < told.scene.candidates && candidate < MOST_CANDIDATES;
    }

    private int finding(int number) {
        latestFinding = number;
        return -10 - number;
    }

    /** Texts change more seldom than they are asked about, so all that hangs on them is run here. */
    private void retell(int text) {
        if (text == CORNER) {
            faults[CORNER] = told.scene.readCorner(texts[CORNER]);
        } else if (text == GUSTS) {
            faults[GUSTS] = told.scene.readGusts(texts[GUSTS]);
        } else if (text == CANDIDATES) {
            faults[CANDIDATES] = told.scene.readCandidates(texts[CANDIDATES]);
        }
        told.run();
        inquiredMinute = NONE;
        weighedCalm = NONE;
    }

    /** A text. Its bytes are kept as ints, as they come without a sign (0 to 255). */
    private static final class Script {
        private final int[] bytes = new int[MOST_BYTES];
        private final int most;
        private int length = 0;

        Script(int most) {
            this.most = Math.min(most, MOST_BYTES);
        }

        boolean isFull() {
            return length >= most;
        }

        int length() {
            return length;
        }

        int at(int place) {
            return place >= 0 && place < length ? bytes[place] : NONE;
        }

        void append(int b) {
            if (length >= 0 && length < most) {
                bytes[length] = b;
                length++;
            }
        }

        void shorten(int by) {
            length = Math.max(0, length - by);
        }
    }

    /** What the texts tell, apart from them, so that a trial can change it without typing. */
    private static final class Scene {
        int columns = 0;
        int cells = 0;
        int minutes = 0;
        int candidates = 0;
        final int[] wall = new int[MOST_CELLS];
        // By way and cell: the cell from which the wind comes, and what the walls leave of it.
        final int[] lee = new int[WAYS * MOST_CELLS];
        final int[] lay = new int[WAYS * MOST_CELLS];
        final int[] from = new int[MOST_MINUTES];
        final int[] force = new int[MOST_MINUTES];
        final int[] at = new int[MOST_CANDIDATES];
        final int[] ribs = new int[MOST_CANDIDATES];
        final int[] held = new int[MOST_CANDIDATES];

        void tellAs(Scene other) {
            columns = other.columns;
            cells = other.cells;
            minutes = other.minutes;
            candidates = other.candidates;
            System.arraycopy(other.wall, 0, wall, 0, MOST_CELLS);
            System.arraycopy(other.lee, 0, lee, 0, WAYS * MOST_CELLS);
            System.arraycopy(other.lay, 0, lay, 0, WAYS * MOST_CELLS);
            System.arraycopy(other.from, 0, from, 0, MOST_MINUTES);
            System.arraycopy(other.force, 0, force, 0, MOST_MINUTES);
            System.arraycopy(other.at, 0, at, 0, MOST_CANDIDATES);
            System.arraycopy(other.ribs, 0, ribs, 0, MOST_CANDIDATES);
            System.arraycopy(other.held, 0, held, 0, MOST_CANDIDATES);
        }

        /** The text's fault; with one the text is as if it was empty. */
        int readCorner(Script text) {
            columns = 0;
            cells = 0;
            int fault = text.length() == 0 ? NONE : readRows(text);
            if (fault != NONE) {
                columns = 0;
                cells = 0;
            }
            survey();
            return fault;
        }

        private int readRows(Script text) {
            int row = 0;
            int column = 0;
            int length = text.length();
            for (int place = 0; place < length; place++) {
                int b = text.at(place);
                boolean endsRow = column > 0 && (row == 0 || column == columns);
                if (row == MOST_SIDE) {
                    return place;
                }
                if (b == ';' && endsRow) {
                    columns = column;
                    row++;
                    column = 0;
                } else if ((b == '.' || b == '#') && column < (row == 0 ? MOST_SIDE : columns)) {
                    addCell(b == '#' ? 1 : 0);
                    column++;
                } else {
                    return place;
                }
            }
            if (row == 0) {
                columns = column;
            }
            return column > 0 && column == columns ? NONE : length;
        }

        private void addCell(int walled) {
            if (cells >= 0 && cells < MOST_CELLS) {
                wall[cells] = walled;
                cells++;
            }
        }

        /** The text's fault; with one the text is as if it was empty. A thirteenth gust finds no room in it. */
        int readGusts(Script text) {
            minutes = 0;
            int length = text.length();
            for (int place = 0; place < length; place++) {
                int minute = place / 2;
                int b = text.at(place);
                int figure = place % 2 == 0 ? wayOf(b) : figureOf(b, 0, 9);
                if (figure == NONE || minute >= MOST_MINUTES) {
                    return place;
                }
                if (place % 2 == 0) {
                    from[minute] = figure;
                } else {
                    force[minute] = figure;
                }
            }
            if (length % 2 != 0) {
                return length;
            }
            minutes = Math.min(length / 2, MOST_MINUTES);
            return NONE;
        }

        /** The text's fault; with one the text is as if it was empty. A ninth candidate finds no room in it. */
        int readCandidates(Script text) {
            candidates = 0;
            int length = text.length();
            for (int place = 0; place < length; place++) {
                if (!readOfCandidate(place / 5, place % 5, text.at(place))) {
                    return place;
                }
            }
            if (length > 0 && length % 5 != 4) {
                return length;
            }
            candidates = Math.min((length + 1) / 5, MOST_CANDIDATES);
            return NONE;
        }

        /** With the ; behind it a candidate is five bytes, so a byte's place tells which part (0 to 4) it must be. */
        private boolean readOfCandidate(int candidate, int part, int b) {
            if (candidate < 0 || candidate >= MOST_CANDIDATES) {
                return false;
            }
            if (part == 0) {
                at[candidate] = 10 * figureOf(b, 0, 2);
                return figureOf(b, 0, 2) != NONE;
            }
            if (part == 1) {
                at[candidate] += figureOf(b, 0, 9);
                return figureOf(b, 0, 9) != NONE;
            }
            if (part == 2) {
                ribs[candidate] = figureOf(b, 1, MOST_RIBS);
                return ribs[candidate] != NONE;
            }
            if (part == 3) {
                held[candidate] = holdOf(b);
                return held[candidate] != NONE;
            }
            return b == ';';
        }

        private static int figureOf(int b, int least, int most) {
            int figure = b - '0';
            return figure >= least && figure <= most ? figure : NONE;
        }

        private static int wayOf(int b) {
            switch (b) {
                case 'n': return NORTH;
                case 'e': return EAST;
                case 's': return SOUTH;
                case 'w': return WEST;
                default: return NONE;
            }
        }

        private static int holdOf(int b) {
            switch (b) {
                case 'h': return LOW;
                case 'o': return UPRIGHT;
                case 'x': return ACROSS;
                default: return NONE;
            }
        }

        boolean isCell(int cell) {
            return cell >= 0 && cell < cells && cell < MOST_CELLS;
        }

        /** Beyond the edge nothing is a wall. */
        boolean isWall(int cell) {
            return cell >= 0 && cell < cells && cell < MOST_CELLS && wall[cell] == 1;
        }

        /** The cell beside one, on a way; NONE: the edge. */
        int beside(int cell, int way) {
            if (!isCell(cell) || columns < 1) {
                return NONE;
            }
            int column = cell % columns;
            switch (way) {
                case NORTH: return cell >= columns ? cell - columns : NONE;
                case EAST: return column + 1 < columns ? cell + 1 : NONE;
                case SOUTH: return cell + columns < cells ? cell + columns : NONE;
                case WEST: return column > 0 ? cell - 1 : NONE;
                default: return NONE;
            }
        }

        /** To be called when walls have changed: what they do to a wind is the same in each minute. */
        void survey() {
            for (int way = 0; way < WAYS; way++) {
                for (int cell = 0; cell < cells && cell < MOST_CELLS; cell++) {
                    lee[way * MOST_CELLS + cell] = beside(cell, way);
                    lay[way * MOST_CELLS + cell] = layOf(cell, way);
                }
            }
        }

        private int layOf(int cell, int way) {
            int beside = beside(cell, way);
            if (isWall(cell) || isWall(beside)) {
                return STILL;
            }
            int lay = isWall(beside(beside, way)) ? HALF : WHOLE;
            boolean arch = isWall(beside(cell, (way + 1) % WAYS)) && isWall(beside(cell, (way + 3) % WAYS));
            return arch ? lay + ARCH : lay;
        }
    }

    /** What happens in the minutes of a scene. Sets of candidates are bits, so that a lee is found by one test. */
    private static final class Course {
        final Scene scene = new Scene();
        private int somewhere = 0;
        private final int[] standing = new int[MOST_CELLS];
        // Ahead of each minute, and behind the last.
        private final int[] turned = new int[MOST_MINUTES + 1];
        private final int[] ribs = new int[(MOST_MINUTES + 1) * MOST_CANDIDATES];
        // Of each minute.
        private final int[] returned = new int[MOST_MINUTES];
        private final int[] elected = new int[MOST_MINUTES];
        private final int[] in = new int[MOST_MINUTES];

        void run() {
            start();
            runOnFrom(0);
        }

        /** What is ahead of the first minute must have been run: it is not run again. */
        void runOnFrom(int first) {
            for (int minute = Math.max(0, first); minute < scene.minutes; minute++) {
                pass(minute);
            }
            end();
        }

        /** The minute in which the candidate's umbrella turns; NONE. Nothing behind it can matter, so it is not run. */
        int runUntilTurned(int candidate) {
            start();
            for (int minute = 0; minute < scene.minutes && minute < MOST_MINUTES; minute++) {
                pass(minute);
                if (has(turned[minute + 1], candidate)) {
                    return minute;
                }
            }
            return NONE;
        }

        void start() {
            Arrays.fill(standing, 0);
            somewhere = 0;
            turned[0] = 0;
            for (int candidate = 0; candidate < scene.candidates && candidate < MOST_CANDIDATES; candidate++) {
                int cell = scene.at[candidate];
                ribs[candidate] = scene.ribs[candidate];
                if (scene.isCell(cell) && !scene.isWall(cell)) {
                    somewhere |= 1 << candidate;
                    standing[cell] |= 1 << candidate;
                }
            }
        }

        /** Only the next minute's wind tells who is returned, so the election of the minute ahead is held here. */
        void pass(int minute) {
            if (minute < 0 || minute >= scene.minutes || minute >= MOST_MINUTES) {
                return;
            }
            int ahead = turned[minute];
            int fresh = minute == 0 ? 0 : ahead & ~turned[minute - 1];
            int back = 0;
            int turning = 0;
            for (int candidate = 0; candidate < scene.candidates && candidate < MOST_CANDIDATES; candidate++) {
                int left = ribs[minute * MOST_CANDIDATES + candidate];
                int wind = windOn(minute, scene.at[candidate]);
                int strain = strainOf(wind, scene.held[candidate]);
                boolean strained = has(somewhere & ~ahead, candidate);
                if (has(fresh, candidate) && wind == 0) {
                    back |= 1 << candidate;
                }
                if (strained && strain > left) {
                    turning |= 1 << candidate;
                }
                if (strained && strain == left && left > 1) {
                    left--;
                }
                ribs[(minute + 1) * MOST_CANDIDATES + candidate] = left;
            }
            turned[minute + 1] = ahead | turning;
            if (minute > 0) {
                elect(minute - 1, back);
            }
        }

        /** Behind the last minute nobody is returned. */
        void end() {
            elect(scene.minutes - 1, 0);
        }

        private static int strainOf(int wind, int held) {
            if (held == LOW) {
                return wind / 2;
            }
            return held == ACROSS ? 2 * wind : wind;
        }

        /** Who is back, that is, returned, is not elected. */
        private void elect(int minute, int back) {
            if (minute < 0 || minute >= MOST_MINUTES) {
                return;
            }
            int lost = turned[minute + 1] & ~turned[minute] & ~back;
            int first = minute * MOST_CANDIDATES;
            int who = NONE;
            for (int candidate = 0; candidate < MOST_CANDIDATES; candidate++) {
                boolean fewer = who == NONE || ribs[first + candidate] < ribs[first + who];
                if (((lost >> candidate) & 1) == 1 && fewer) {
                    who = candidate;
                }
            }
            returned[minute] = back;
            elected[minute] = who;
            if (who == NONE && minute > 0) {
                who = in[minute - 1];
            }
            in[minute] = who;
        }

        int windOn(int minute, int cell) {
            if (minute < 0 || minute >= MOST_MINUTES || cell < 0 || cell >= scene.cells) {
                return 0;
            }
            int place = scene.from[minute] * MOST_CELLS + cell;
            if (place < 0 || place >= WAYS * MOST_CELLS || scene.lay[place] == STILL) {
                return 0;
            }
            int lay = scene.lay[place];
            int wind = lay % ARCH == HALF ? scene.force[minute] / 2 : scene.force[minute];
            if (wind != 0 && lay >= ARCH) {
                wind += 3;
            }
            int lee = scene.lee[place];
            boolean shielded = lee >= 0 && lee < MOST_CELLS && (standing[lee] & ~turned[minute]) != 0;
            return shielded ? wind / 2 : wind;
        }

        private static boolean has(int set, int candidate) {
            return ((set >> candidate) & 1) == 1;
        }

        boolean isSomewhere(int candidate) {
            return has(somewhere, candidate);
        }

        boolean isFree(int cell) {
            return scene.isCell(cell) && !scene.isWall(cell) && standing[cell] == 0;
        }

        /** One may stay where one stands already. */
        boolean isFreeFor(int candidate, int cell) {
            return scene.isCell(cell) && !scene.isWall(cell) && (standing[cell] & ~(1 << candidate)) == 0;
        }

        int ribsAhead(int minute, int candidate) {
            int place = minute * MOST_CANDIDATES + candidate;
            return place >= 0 && place < ribs.length ? ribs[place] : 0;
        }

        int turnsWhen(int candidate) {
            for (int minute = 0; minute < scene.minutes && minute < MOST_MINUTES; minute++) {
                if (has(turned[minute + 1], candidate)) {
                    return minute;
                }
            }
            return NONE;
        }

        boolean isReturned(int candidate) {
            int minute = turnsWhen(candidate);
            return minute >= 0 && minute < MOST_MINUTES && has(returned[minute], candidate);
        }

        boolean isElected(int candidate) {
            int minute = turnsWhen(candidate);
            return minute >= 0 && minute < MOST_MINUTES && elected[minute] == candidate;
        }

        /** Behind how many minutes one is in; of NONE: nobody. */
        int minutesBehindWhichIn(int who) {
            int many = 0;
            for (int minute = 0; minute < scene.minutes; minute++) {
                many += whoIsIn(minute) == who ? 1 : 0;
            }
            return many;
        }

        /** Ahead of minute 0 nobody is in. */
        int whoIsIn(int minute) {
            return minute >= 0 && minute < scene.minutes && minute < MOST_MINUTES ? in[minute] : NONE;
        }

        int whoIsInLast() {
            return whoIsIn(scene.minutes - 1);
        }

        int manyTurned() {
            int last = scene.minutes;
            return last >= 0 && last <= MOST_MINUTES ? Integer.bitCount(turned[last]) : 0;
        }
    }

    /** Who was seen to be in, behind which minutes. */
    private static final class Sightings {
        int many = 0;
        private final int[] minutes = new int[MOST_SEEN];
        private final int[] who = new int[MOST_SEEN];

        boolean isSighting(int minute, int candidate) {
            return minute >= 0 && minute < MOST_MINUTES && candidate >= 0 && candidate <= NOBODY;
        }

        boolean isFull() {
            return many >= MOST_SEEN;
        }

        void append(int minute, int candidate) {
            if (many >= 0 && many < MOST_SEEN) {
                minutes[many] = minute;
                who[many] = candidate;
                many++;
            }
        }

        boolean comeOutSo(Course course) {
            for (int i = 0; i < many && i < MOST_SEEN; i++) {
                int due = who[i] == NOBODY ? NONE : who[i];
                if (minutes[i] >= course.scene.minutes || course.whoIsIn(minutes[i]) != due) {
                    return false;
                }
            }
            return true;
        }
    }

    /** A sheet keeps its row when it is lost, so that a new one makes no object. */
    private static final class Sheet {
        int form = NONE;
        int size = 0;
        final int[] items = new int[MOST_ITEMS];

        boolean isLost() {
            return form == NONE;
        }

        void renew(int newForm, int n) {
            form = newForm;
            size = Math.max(0, Math.min(n, MOST_ITEMS));
            Arrays.fill(items, 0);
        }

        void discard() {
            form = NONE;
            size = 0;
        }

        /** The finding against item i, treated as of a form; 0: none. Of several the one that put() and get() tell first. */
        int hindrance(int asForm, int i) {
            if (isLost()) {
                return NULL;
            }
            if (form != asForm) {
                return CAST;
            }
            return i < 0 || i >= size ? INDEX : 0;
        }

        boolean hasItems(int first, int n) {
            return first >= 0 && n >= 0 && first <= size && n <= size - first;
        }

        int item(int i) {
            return i >= 0 && i < size && i < MOST_ITEMS ? items[i] : 0;
        }

        void setItem(int i, int v) {
            if (i >= 0 && i < size && i < MOST_ITEMS) {
                items[i] = form == BYTES ? (byte) v : form == SHORTS ? (short) v : v;
            }
        }
    }
}
