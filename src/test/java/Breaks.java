import java.util.ArrayList;
import java.util.List;

/**
 * Ways in which the class could break a sentence of the document: what stands in its source (without comments, blanks and
 * line ends as one blank) and what comes in its place. Each sentence of BoundsTest has at least one.
 */
final class Breaks {
    private static final int TERMS = Sentences.TERMS;

    /** One of them: the sentence is the only one told there that begins with these words. */
    static final class Break {
        final int promise;
        final String words;
        final String from;
        final String to;

        Break(int promise, String words, String from, String to) {
            this.promise = promise;
            this.words = words;
            this.from = from;
            this.to = to;
        }
    }

    private final List<Break> all = new ArrayList<>();

    static List<Break> all() {
        Breaks b = new Breaks();
        b.ofTexts();
        b.ofFaults();
        b.ofWinds();
        b.ofStrains();
        b.ofTerms();
        b.ofPlans();
        b.ofMovesAndBribes();
        b.ofSeen();
        b.ofSheets();
        b.ofFindings();
        b.ofPromisesToEight();
        b.ofPromisesToEighteen();
        b.ofPromisesToTwentySix();
        b.ofPromisesToTheEnd();
        return b.all;
    }

    private void on(int promise, String words, String from, String to) { all.add(new Break(promise, words, from, to)); }

    private void ofTexts() {
        on(Sentences.BEFORE, "An object", "public int lulls() {", "private int calls = 0; public int lulls() { if (++calls > 511) { return BAD; }");
        on(Sentences.BEFORE, "NONE", "NONE = -1, BAD = -2,", "NONE = -1, BAD = -5,");
        on(Sentences.BEFORE, "NONE", "NOT = -3, FULL = -4;", "NOT = -4, FULL = -3;");
        on(TERMS, "THE CORNER", "CORNER_BYTES = 29", "CORNER_BYTES = 28");
        on(TERMS, "THE CORNER", "CORNER_BYTES = 29", "CORNER_BYTES = 30");
        on(TERMS, "ROWS, 5", "if (row == MOST_SIDE) {", "if (row == MOST_SIDE + 1) {");
        on(TERMS, "ROWS, 5", "if (row == MOST_SIDE) {", "if (row == MOST_SIDE - 1) {");
        on(TERMS, "ROWS, 5", "b == ';' && endsRow", "(b == ';' || b == ',') && endsRow");
        on(TERMS, "each of as many", "boolean endsRow = column > 0 &&", "boolean endsRow = column >= 0 &&");
        on(TERMS, "each of as many", "boolean endsRow = column > 0 &&", "boolean endsRow = column > 1 &&");
        on(TERMS, "each of as many", "(row == 0 ? MOST_SIDE : columns)", "(row == 0 ? MOST_SIDE - 1 : columns)");
        on(TERMS, "each of as many", "(row == 0 ? MOST_SIDE : columns)", "(row == 0 ? MOST_SIDE + 1 : columns)");
        on(TERMS, ". (open)", "addCell(b == '#' ? 1 : 0)", "addCell(b == '.' ? 1 : 0)");
        on(TERMS, ". (open)", "(b == '.' || b == '#')", "(b == '.' || b == '#' || b == '-')");
        on(TERMS, ". (open)", "(b == '.' || b == '#')", "((b & 127) == '.' || b == '#')");
        on(TERMS, "CELLS are numbered", "wall[cells] = walled;", "wall[MOST_CELLS - 1 - cells] = walled;");
        on(TERMS, "CELLS are numbered", "if (cell < 0 || cell >= MOST_CELLS) {", "if (cell < 0 || cell > MOST_CELLS) {");
        on(TERMS, "GUSTS are", "GUST_BYTES = 24", "GUST_BYTES = 23");
        on(TERMS, "GUSTS are", "GUST_BYTES = 24", "GUST_BYTES = 25");
        on(TERMS, "one for each MINUTE", "minutes = Math.min(length / 2, MOST_MINUTES);", "minutes = Math.min(length / 2, MOST_MINUTES - 1);");
        on(TERMS, "one for each MINUTE", "told.scene.force[minute]; }", "told.scene.force[told.scene.minutes - 1 - minute]; }");
        on(TERMS, "n, e, s or w", "case 'e': return EAST;", "case 'f': return EAST;");
        on(TERMS, "n, e, s or w", "case 'w': return WEST;", "case 'w': return WEST; case 'W': return WEST;");
        on(TERMS, "n, e, s or w", "? wayOf(b) : figureOf(b, 0, 9)", "? wayOf(b) : figureOf(b, 0, 8)");
        on(TERMS, "n, e, s or w", "? wayOf(b) : figureOf(b, 0, 9)", "? wayOf(b) : figureOf(b, 1, 9)");
        on(TERMS, "n, e, s or w", "? wayOf(b) : figureOf(b, 0, 9)", "? wayOf(b) : figureOf(b, 0, 10)");
        on(TERMS, "CANDIDATES are", "CANDIDATE_BYTES = 39", "CANDIDATE_BYTES = 38");
        on(TERMS, "CANDIDATES are", "return b == ';';", "return b == ';' || b == ',';");
        on(TERMS, "CANDIDATES are", "Math.min((length + 1) / 5, MOST_CANDIDATES)", "Math.min((length + 1) / 5, MOST_CANDIDATES - 1)");
        on(TERMS, "a figure 0 to 2", "return figureOf(b, 0, 2) != NONE;", "return figureOf(b, 0, 3) != NONE;");
        on(TERMS, "a figure 0 to 2", "return figureOf(b, 0, 2) != NONE;", "return figureOf(b, 0, 1) != NONE;");
        on(TERMS, "a figure 0 to 2", "return figureOf(b, 0, 9) != NONE;", "return figureOf(b, 0, 8) != NONE;");
        on(TERMS, "a figure 0 to 2", "return figureOf(b, 0, 9) != NONE;", "return figureOf(b, 0, 10) != NONE;");
        on(TERMS, "a figure, its RIBS", "figureOf(b, 1, MOST_RIBS)", "figureOf(b, 0, MOST_RIBS)");
        on(TERMS, "a figure, its RIBS", "figureOf(b, 1, MOST_RIBS)", "figureOf(b, 1, MOST_RIBS - 1)");
        on(TERMS, "a figure, its RIBS", "figureOf(b, 1, MOST_RIBS)", "figureOf(b, 1, MOST_RIBS + 1)");
        on(TERMS, "and h (held low)", "case 'x': return ACROSS;", "case 'x': return ACROSS; case 'X': return ACROSS;");
        on(TERMS, "and h (held low)", "case 'o': return UPRIGHT;", "case 'O': return UPRIGHT;");
    }

    private void ofFaults() {
        on(TERMS, "The FAULT", "text.at(place))) { return place;", "text.at(place))) { return place + 1;");
        on(TERMS, "The FAULT", "if (figure == NONE || minute >= MOST_MINUTES) { return place;", "if (figure == NONE || minute >= MOST_MINUTES) { return 2 * minute;");
        on(TERMS, "The FAULT", "} else { return place; } }", "} else { return length; } }");
        on(TERMS, "(an empty one", "text.length() == 0 ? NONE : readRows(text)", "readRows(text)");
        on(TERMS, "(an empty one", "if (length > 0 && length % 5 != 4) {", "if (length % 5 != 4) {");
        on(TERMS, "(an empty one", "if (length % 2 != 0) {", "if (length == 0 || length % 2 != 0) {");
        on(TERMS, "of one that is not ended", "if (length % 2 != 0) { return length;", "if (length % 2 != 0) { return length - 1;");
        on(TERMS, "of one that is not ended", "if (length > 0 && length % 5 != 4) { return length;", "if (length > 0 && length % 5 != 4) { return NONE;");
        on(TERMS, "of one that is not ended", "? NONE : length;", "? NONE : length - 1;");
        on(TERMS, "or of a ROW that is too short", "return column > 0 && column == columns ?", "return column > 0 ?");
        on(TERMS, "or of a ROW that is too short", "(row == 0 || column == columns)", "(row == 0 || column <= columns)");
        on(TERMS, "or of a ROW that is too short", "? NONE : length;", "? NONE : length - column;");
        on(TERMS, "here also of a CELL", "column < (row == 0 ? MOST_SIDE : columns)", "column < MOST_SIDE");
        on(TERMS, "here also of a CELL", "column < (row == 0 ? MOST_SIDE : columns)", "column < (row == 0 ? MOST_SIDE + 1 : columns)");
        on(TERMS, "of the first byte of a sixth", "if (b == ';' && endsRow) {", "if (b == ';' && endsRow && row < MOST_SIDE - 1) {");
        on(TERMS, "of the first byte of a sixth", "if (row == MOST_SIDE) {", "if (row == MOST_SIDE && b != '#') {");
        on(TERMS, "of a thirteenth", "GUST_BYTES = 24", "GUST_BYTES = 26");
        on(TERMS, "With a FAULT", "if (fault != NONE) {", "if (fault == 0) {");
        on(TERMS, "With a FAULT", "int readGusts(Script text) { minutes = 0;", "int readGusts(Script text) {");
        on(TERMS, "With a FAULT", "int readCandidates(Script text) { candidates = 0;", "int readCandidates(Script text) {");
        on(TERMS, "A CANDIDATE whose CELL", "if (scene.isCell(cell) && !scene.isWall(cell)) {", "if (scene.isCell(cell)) {");
        on(TERMS, "A CANDIDATE whose CELL", "somewhere |= 1 << candidate; standing", "standing");
    }

    private void ofWinds() {
        on(TERMS, "The WIND on a CELL in a MINUTE: FORCE", "/ 2 : scene.force[minute];", "/ 2 : Math.min(8, scene.force[minute]);");
        on(TERMS, "if the CELL beside it", "if (isWall(cell) || isWall(beside)) {", "if (isWall(cell)) {");
        on(TERMS, "if the CELL beside it", "int beside = beside(cell, way); if", "int beside = beside(cell, way % 3); if");
        on(TERMS, "else, if the one behind", "HALF ? scene.force[minute] / 2", "HALF ? (scene.force[minute] + 1) / 2");
        on(TERMS, "else, if the one behind", "isWall(beside(beside, way)) ? HALF", "isWall(beside(cell, (way + 2) % WAYS)) ? HALF");
        on(TERMS, "then, if both CELLS", "if (wind != 0 && lay >= ARCH) {", "if (lay >= ARCH) {");
        on(TERMS, "then, if both CELLS", "wind += 3;", "wind += 2;");
        on(TERMS, "then, if both CELLS", "(way + 1) % WAYS)) && isWall", "(way + 1) % WAYS)) || isWall");
        on(TERMS, "then, if a CANDIDATE", "lee[way * MOST_CELLS + cell] = beside(cell, way);", "lee[way * MOST_CELLS + cell] = beside(cell, (way + 2) % WAYS);");
        on(TERMS, "then, if a CANDIDATE", "wind += 3; } int lee", "wind += (standing[Math.max(0, scene.lee[place])] & ~turned[minute]) != 0 ? 6 : 3; } int lee");
        on(TERMS, "whose umbrella has not turned in a MINUTE ahead", "(standing[lee] & ~turned[minute]) != 0", "standing[lee] != 0");
        on(TERMS, "whose umbrella has not turned in a MINUTE ahead", "return shielded ? wind / 2 : wind;", "return shielded ? (wind + 1) / 2 : wind;");
        on(TERMS, "whose umbrella has not turned in a MINUTE ahead", "(standing[lee] & ~turned[minute]) != 0", "(standing[lee] & turned[minute]) == 0 && standing[lee] != 0");
        on(TERMS, "(Beyond the edge", "return column > 0 ? cell - 1 : NONE;", "return cell > 0 ? cell - 1 : NONE;");
        on(TERMS, "(Beyond the edge", "return column + 1 < columns ? cell + 1 : NONE;", "return cell + 1 < cells ? cell + 1 : NONE;");
        on(TERMS, "(Beyond the edge", "return cell >= 0 && cell < cells && cell < MOST_CELLS && wall[cell] == 1;",
            "return cell < 0 || cell < cells && cell < MOST_CELLS && wall[cell] == 1;");
        on(TERMS, "on a wall there is none", "if (isWall(cell) || isWall(beside)) {", "if (isWall(beside)) {");
    }

    private void ofStrains() {
        on(TERMS, "In a MINUTE all CANDIDATES", "candidate < MOST_CANDIDATES; candidate++) { int left", "candidate < MOST_CANDIDATES - 1; candidate++) { int left");
        on(TERMS, "whose umbrella has not turned ahead", "has(somewhere & ~ahead, candidate)", "has(somewhere, candidate)");
        on(TERMS, "are strained by half", "if (held == LOW) { return wind / 2;", "if (held == LOW) { return (wind + 1) / 2;");
        on(TERMS, "are strained by half", "if (held == LOW) {", "if (held == LOW && wind < 9) {");
        on(TERMS, "by the WIND, upright", "held == ACROSS ? 2 * wind : wind;", "held == ACROSS ? 3 * wind : wind;");
        on(TERMS, "by the WIND, upright", "held == ACROSS ? 2 * wind : wind;", "held == ACROSS ? 2 * wind : Math.min(9, wind);");
        on(TERMS, "If that is more than", "if (strained && strain > left) {", "if (strained && strain >= left) {");
        on(TERMS, "If that is more than", "if (strained && strain > left) {", "if (strained && strain > left + 1) {");
        on(TERMS, "if it is as many as", "strain == left && left > 1", "strain == left && left > 0");
        on(TERMS, "if it is as many as", "strain == left && left > 1", "strain == left && left > 2");
        on(TERMS, "if it is as many as", "strain == left && left > 1", "strain + 1 >= left && left > 1");
        on(TERMS, "if it is as many as", "strain == left && left > 1", "strain >= left && left > 1");
        on(TERMS, "if it is as many as", "left--; }", "left = 1; }");
        on(TERMS, "It is RETURNED", "elect(scene.minutes - 1, 0);",
            "elect(scene.minutes - 1, scene.minutes > 0 ? turned[scene.minutes] & ~turned[scene.minutes - 1] : 0);");
        on(TERMS, "and no WIND on its CELL", "has(fresh, candidate) && wind == 0", "has(fresh, candidate) && scene.force[minute] == 0");
        on(TERMS, "and no WIND on its CELL", "has(fresh, candidate) && wind == 0", "has(fresh, candidate) && wind < 2");
        on(TERMS, "(RETURNED or not", "turned[minute + 1] = ahead | turning;", "turned[minute + 1] = ahead & ~back | turning;");
        on(TERMS, "(RETURNED or not", "turned[minute + 1] = ahead | turning;", "turned[minute + 1] = ahead & back | turning;");
        on(TERMS, "Who TURNS", "& ~turned[minute] & ~back;", "& ~turned[minute];");
        on(TERMS, "(of some the one", "ribs[first + candidate] < ribs[first + who];", "ribs[first + candidate] <= ribs[first + who];");
        on(TERMS, "(of some the one", "ribs[first + candidate] < ribs[first + who];", "ribs[first + candidate] > ribs[first + who];");
        on(TERMS, "(of some the one", "ribs[first + candidate] < ribs[first + who];", "scene.ribs[candidate] < scene.ribs[who];");
        on(TERMS, "who is ELECTED is IN", "if (who == NONE && minute > 0) {", "if (minute > 0 && in[minute - 1] != NONE) {");
        on(TERMS, "who is ELECTED is IN", "if (who == NONE && minute > 0) {", "if (who == NONE && minute == 2) {");
    }

    private void ofTerms() {
        on(TERMS, "The WIND on a CELL in a MINUTE; RIBS", "int place = minute * MOST_CANDIDATES + candidate;", "int place = (minute + 1) * MOST_CANDIDATES + candidate;");
        on(TERMS, "Of a CANDIDATE: the MINUTE", "int turnsWhen(int candidate) { for (int minute = 0;", "int turnsWhen(int candidate) { for (int minute = 1;");
        on(TERMS, "Of a CANDIDATE: the MINUTE", "case 0: return told.turnsWhen(candidate);", "case 0: return Math.max(0, told.turnsWhen(candidate));");
        on(TERMS, "whether it is RETURNED", "has(returned[minute], candidate);", "!has(returned[minute], candidate);");
        on(TERMS, "whether it is RETURNED", "elected[minute] == candidate;", "elected[minute] != NONE;");
        on(TERMS, "whether it is RETURNED", "case 3: return told.minutesBehindWhichIn(candidate);", "case 3: return Math.min(2, told.minutesBehindWhichIn(candidate));");
        on(TERMS, "IN behind a MINUTE", "return isMinute(minute) ? told.whoIsIn(minute)", "return isMinute(minute) ? told.whoIsIn(minute - 1)");
        on(TERMS, "FIRST:", "return what == 0 ? minute : who;", "return what == 0 ? minute : told.whoIsInLast();");
        on(TERMS, "FIRST:", "int who = told.whoIsIn(minute); if (who != NONE)", "int who = told.whoIsIn(minute); if (who != NONE && who != 0)");
        on(TERMS, "LULLS:", "return told.minutesBehindWhichIn(NONE);", "return told.scene.minutes - told.minutesBehindWhichIn(0);");
        on(TERMS, "LULLS:", "return told.minutesBehindWhichIn(NONE);", "return Math.max(1, told.minutesBehindWhichIn(NONE));");
    }

    private void ofPlans() {
        on(TERMS, "STAND of", "(standing[cell] & ~(1 << candidate)) == 0", "standing[cell] == 0");
        on(TERMS, "STAND of", "(standing[cell] & ~(1 << candidate)) == 0", "standing[cell] >= 0");
        on(TERMS, "STAND of", "(standing[cell] & ~(1 << candidate)) == 0", "(standing[cell] & ~turned[scene.minutes] & ~(1 << candidate)) == 0");
        on(TERMS, "in place of its own, by which its umbrella TURNS first", "minute < soonest)) {", "minute > soonest)) {");
        on(TERMS, "in place of its own, by which its umbrella TURNS first", "minute < soonest)) {", "false)) {");
        on(TERMS, "in place of its own, by which its umbrella TURNS first", "if (!told.isFreeFor(candidate, cell)) {", "if (!told.isFreeFor(candidate, cell) || told.scene.at[candidate] == cell) {");
        on(TERMS, "of like ones the least: which", "minute < soonest)) {", "minute <= soonest)) {");
        on(TERMS, "of like ones the least: which", "int soonest = NONE;", "int soonest = MOST_MINUTES;");
        on(TERMS, "SHIELD of", "other == candidate ? NONE : placeToShield", "other < 0 ? NONE : placeToShield");
        on(TERMS, "and an open CELL", "if (!told.isFree(cell)) {", "if (!told.scene.isCell(cell)) {");
        on(TERMS, "in place of that one's own", "if (trial.runUntilTurned(candidate) == NONE) {",
            "trial.run(); if (trial.turnsWhen(candidate) == NONE || trial.isReturned(candidate)) {");
        on(TERMS, "in place of that one's own", "trial.scene.at[other] = cell; if", "if (told.scene.candidates < MOST_CANDIDATES) { int more = told.scene.candidates;"
            + " trial.scene.candidates = more + 1; trial.scene.at[more] = told.scene.at[other]; trial.scene.ribs[more] = 9; } trial.scene.at[other] = cell; if");
        on(TERMS, "of like ones the least CANDIDATE", "return 32 * other + cell;", "return 25 * other + cell;");
        on(TERMS, "of like ones the least CANDIDATE", "for (int other = 0; other < told.scene.candidates; other++) {", "for (int other = told.scene.candidates - 1; other >= 0; other--) {");
        on(TERMS, "of like ones the least CANDIDATE", "for (int cell = 0; cell < told.scene.cells; cell++) { if (!told.isFree(cell)) {",
            "for (int cell = told.scene.cells - 1; cell >= 0; cell--) { if (!told.isFree(cell)) {");
        on(TERMS, "NONE; -3:", "if (told.turnsWhen(candidate) == NONE) { return NOT;", "if (told.turnsWhen(candidate) == NONE) { return NONE;");
        on(TERMS, "NONE; -3:", "if (told.turnsWhen(candidate) == NONE) {", "if (told.turnsWhen(candidate) == NONE || told.isReturned(candidate)) {");
    }

    private void ofMovesAndBribes() {
        on(TERMS, "MOVE: a wall", "if (!told.scene.isWall(cell) || !told.isFree(goal)) {", "if (!told.isFree(goal)) {");
        on(TERMS, "MOVE: a wall", "least == NONE ? 4 * cell + way", "least == NONE ? 4 * cell + (way + 2) % WAYS");
        on(TERMS, "MOVE: a wall", "way < WAYS; way++) { if (movesAnotherIn", "way < WAYS - 1; way++) { if (movesAnotherIn");
        on(TERMS, "to an open CELL beside", "|| !told.isFree(goal)) {", "|| !told.scene.isCell(goal) || told.scene.isWall(goal)) {");
        on(TERMS, "to an open CELL beside", "|| !told.isFree(goal)) {", "|| !told.scene.isCell(goal) || !told.scene.isWall(goal) && !told.isFree(goal)) {");
        on(TERMS, "to an open CELL beside", "trial.scene.wall[cell] = 0;", "");
        on(TERMS, "to an open CELL beside", "trial.scene.wall[goal] = 1;", "");
        on(TERMS, "to an open CELL beside", "return column + 1 < columns ? cell + 1 : NONE;", "return cell + 1 < cells ? cell + 1 : NONE;");
        on(TERMS, "so that another one is IN", "return trial.whoIsInLast() != told.whoIsInLast();", "return trial.whoIsIn(0) != told.whoIsIn(0);");
        on(TERMS, "so that another one is IN", "return trial.whoIsInLast() != told.whoIsInLast();", "return told.whoIsInLast() == NONE && trial.whoIsInLast() != NONE;");
        on(TERMS, "(or nobody;", "return trial.whoIsInLast() != told.whoIsInLast();", "return trial.whoIsInLast() != NONE && trial.whoIsInLast() != told.whoIsInLast();");
        on(TERMS, "(or nobody;", "trial.scene.survey(); trial.run();", "for (int c = 0; c < told.scene.candidates; c++) {"
            + " if (!told.isSomewhere(c)) { trial.scene.at[c] = MOST_CELLS; } } trial.scene.survey(); trial.run();");
        on(TERMS, "of like ones the least wall", "least = least == NONE ? 4 * cell + way : least;", "least = 4 * cell + way;");
        on(TERMS, "of like ones the least wall", "many++; least", "many = 1; least");
        on(TERMS, "of like ones the least wall", "least = least == NONE ? 4 * cell + way : least;", "least = least == NONE ? 5 * cell + way : least;");
        on(TERMS, "BRIBE of", "for (int fewer = 0; fewer < ribs; fewer++) {", "for (int fewer = ribs - 1; fewer >= 0; fewer--) {");
        on(TERMS, "BRIBE of", "for (int fewer = 0; fewer < ribs; fewer++) {", "for (int fewer = 1; fewer < ribs; fewer++) {");
        on(TERMS, "(1 is left", "for (int fewer = 0; fewer < ribs; fewer++) {", "for (int fewer = 0; fewer <= ribs; fewer++) {");
        on(TERMS, "(1 is left", "for (int fewer = 0; fewer < ribs; fewer++) {", "for (int fewer = 0; fewer < ribs - 1; fewer++) {");
        on(TERMS, "by which it is IN", "if (trial.whoIsInLast() == candidate) {", "if (trial.whoIsIn(0) == candidate) {");
        on(TERMS, "by which it is IN", "if (trial.whoIsInLast() == candidate) {", "if (trial.turnsWhen(candidate) != NONE) {");
    }

    private void ofSeen() {
        on(TERMS, "FRACTIONS", "while (halvings > 0 &&", "while (halvings > 1 &&");
        on(TERMS, "FRACTIONS", "if (above == 0L) { return what == 0 ? 0L : 1L;", "if (above == 0L) { return what == 0 ? 0L : 16L;");
        on(TERMS, "LOTS", "1103515245 * seed + 12345", "1103515245 * seed + 12344");
        on(TERMS, "LOTS", "1103515245 * seed + 12345", "1103515245 * (seed & 65535) + 12345");
        on(TERMS, "its upper 16 bits", "(lots >>> 16) % FORCES", "Math.abs((lots >> 16) % FORCES)");
        on(TERMS, "its upper 16 bits", "(lots >>> 16) % WAYS", "((lots >>> 16) & 32767) % WAYS % 3");
        on(TERMS, "its upper 16 bits", "(lots >>> 16) % FORCES", "((lots >>> 16) & 32767) % FORCES");
        on(TERMS, "SEEN, 8", "MOST_SEEN = 8", "MOST_SEEN = 7");
        on(TERMS, "SEEN, 8", "MOST_SEEN = 8", "MOST_SEEN = 9");
        on(TERMS, "SEEN, 8", "candidate <= NOBODY; }", "candidate < NOBODY; }");
        on(TERMS, "SEEN, 8", "who[i] == NOBODY ? NONE : who[i]", "who[i] == NOBODY - 1 ? NONE : who[i]");
        on(TERMS, "of a MINUTE that there is not", "if (minutes[i] >= course.scene.minutes ||", "if (");
        on(TERMS, "BLEW of", "trial.scene.from[minute] = gust / FORCES;", "trial.scene.from[minute] = (gust / FORCES + 2) % WAYS;");
        on(TERMS, "BLEW of", "trial.scene.force[minute] = gust % FORCES;", "trial.scene.force[minute] = (gust + 1) % FORCES;");
        on(TERMS, "in place of its own, by which all", "if (many == i) {", "if (many == i + 1) {");
        on(TERMS, "in place of its own, by which all", "course.whoIsIn(minutes[i]) != due) { return false;", "course.whoIsIn(minutes[i]) != due) { return i > 0;");
        on(TERMS, "in place of its own, by which all", "trial.runOnFrom(minute);", "trial.runOnFrom(minute + 1);");
        on(TERMS, "HAD of", "bits |= 1 << ribs;", "bits |= 1 << (ribs - 1);");
        on(TERMS, "HAD of", "ribs <= MOST_RIBS; ribs++", "ribs < MOST_RIBS; ribs++");
        on(TERMS, "HAD of", "int ribs = 1; ribs <= MOST_RIBS", "int ribs = 2; ribs <= MOST_RIBS");
        on(TERMS, "ASK of", "|= 1L << gust; tallyTrial(); }", "|= 1L << gust; } tallyTrial();");
        on(TERMS, "the greatest number", "if (greatestTally(other) < greatestTally(best)) {", "if (greatestTally(other) <= greatestTally(best)) {");
        on(TERMS, "the greatest number", "if (greatestTally(other) < greatestTally(best)) {", "if (greatestTally(other) > greatestTally(best)) {");
        on(TERMS, "the greatest number", "column <= NOBODY; column++", "column < NOBODY; column++");
        on(TERMS, "CALM:", "? told.scene.force[minute] : 0;", "? told.scene.force[minute] : told.scene.force[minute] / 9;");
        on(TERMS, "CALM:", "c > SIXTEENTHS ||", "c >= SIXTEENTHS ||");
        on(TERMS, "CALM:", "(blows ? c : SIXTEENTHS - c)", "(blows ? c : minute == 0 ? SIXTEENTHS - c : SIXTEENTHS)");
        on(TERMS, "the chance that", "int who = trial.whoIsInLast(); if", "int who = trial.whoIsIn(0); if");
        on(TERMS, "the chance that", "chances[who] += weights[minutes];", "chances[0] += weights[minutes];");
        on(TERMS, "WEATHER by", "n > MOST_MINUTES || what", "n >= MOST_MINUTES || what");
        on(TERMS, "WEATHER by", "n < 1 || n > MOST_MINUTES", "n < 2 || n > MOST_MINUTES");
        on(TERMS, "WEATHER by", "= (lots >>> 16) % WAYS; lots = nextLots(lots);", "= (lots >>> 16) % WAYS;");
        on(TERMS, "in place of those told", "trial.scene.minutes = n;", "trial.scene.minutes = Math.max(n, told.scene.minutes);");
        on(TERMS, "in place of those told", "return what == 0 ? trial.whoIsInLast() :", "return what == 0 ? trial.whoIsIn(0) :");
        on(TERMS, "in place of those told", "Integer.bitCount(turned[last])", "Integer.bitCount(turned[last] & ~returned[0])");
    }

    private void ofSheets() {
        on(TERMS, "SHEETS 0 .. 3", "SHEETS = 4", "SHEETS = 3");
        on(TERMS, "SHEETS 0 .. 3", "SHEETS = 4", "SHEETS = 5");
        on(TERMS, "SHEETS 0 .. 3", "FORMS = 3", "FORMS = 4");
        on(TERMS, "SHEETS 0 .. 3", "form == SHORTS ? (short) v : v;", "form == SHORTS ? (byte) v : v;");
        on(TERMS, "of 0 to 60 items", "MOST_ITEMS = 60", "MOST_ITEMS = 59");
        on(TERMS, "of 0 to 60 items", "MOST_ITEMS = 60", "MOST_ITEMS = 61");
        on(TERMS, "of 0 to 60 items", "Arrays.fill(items, 0);", "");
        on(TERMS, "of 0 to 60 items", "if (n < 0) {", "if (n < 1) {");
    }

    private void ofFindings() {
        on(TERMS, "FINDINGS", "return -10 - number;", "return -9 - number;");
        on(TERMS, "FINDINGS", "if (n < 0) { return finding(SIZE);", "if (n < 0) { sheets[s].discard(); return finding(SIZE);");
        on(TERMS, "1 NULL", "NULL = 1", "NULL = 6");
        on(TERMS, "1 NULL", "if (isLost()) { return NULL; }", "");
        on(TERMS, "2 INDEX", "return i < 0 || i >= size ? INDEX : 0;", "return i < 0 || i > size ? INDEX : 0;");
        on(TERMS, "3 CAST", "if (form != asForm) {", "if (form < asForm) {");
        on(TERMS, "3 CAST", "if (form != asForm) {", "if (form > asForm) {");
        on(TERMS, "4 STORE", "if (sheets[s].form != sheets[t].form) {", "if (sheets[s].form < sheets[t].form) {");
        on(TERMS, "4 STORE", "if (sheets[s].form != sheets[t].form) {", "if (sheets[s].form > sheets[t].form) {");
        on(TERMS, "5 SIZE", "if (n < 0) {", "if (n < -1) {");
        on(TERMS, "5 SIZE", "if (n < 0) {", "if (n < 0 && n > Integer.MIN_VALUE) {");
        on(TERMS, "Refusals", "if (!isText(text) || b < 0 || b > 255) {", "if (isText(text) && texts[text].isFull()) { return FULL; } if (!isText(text) || b < 0 || b > 255) {");
        on(TERMS, "Refusals", "if (!sightings.isSighting(minute, candidate)) {", "if (sightings.isFull()) { return FULL; } if (!sightings.isSighting(minute, candidate)) {");
        on(TERMS, "Refusals", "if (!isSheet(s) || !isForm(form) || n > MOST_ITEMS) {", "if (n < 0) { return finding(SIZE); } if (!isSheet(s) || !isForm(form) || n > MOST_ITEMS) {");
        on(TERMS, "Refusals", "if (isLost()) { return NULL; } if (form != asForm) { return CAST; }", "if (form != asForm) { return CAST; } if (isLost()) { return NULL; }");
        on(TERMS, "Refusals", "if (sheets[s].form != sheets[t].form) { return finding(STORE); } if (!sheets[s].hasItems(i, n) || !sheets[t].hasItems(j, n)) { return finding(INDEX); }",
            "if (!sheets[s].hasItems(i, n) || !sheets[t].hasItems(j, n)) { return finding(INDEX); } if (sheets[s].form != sheets[t].form) { return finding(STORE); }");
        on(TERMS, "Refusals", "if (!isMinute(minute) || !isSheet(s)) {", "if (isSheet(s) && sheets[s].isLost()) { return finding(NULL); } if (!isMinute(minute) || !isSheet(s)) {");
        on(TERMS, "They change nothing", "if (n < 0) { return finding(SIZE);", "if (n < 0) { sheets[s].renew(form, 0); return finding(SIZE);");
        on(TERMS, "They change nothing", "if (texts[text].isFull()) { return FULL;", "if (texts[text].isFull()) { texts[text].shorten(1); retell(text); return FULL;");
        on(TERMS, "They change nothing", "if (sightings.isFull()) { return FULL;", "if (sightings.isFull()) { sightings.many--; return FULL;");
        on(TERMS, "They change nothing", "if (!isSheet(s) || !isForm(form)) { return BAD; }", "if (!isSheet(s) || !isForm(form)) { return BAD; } if (form != sheets[s].form && !sheets[s].isLost()) { sheets[s].items[0] = 77; }");
        on(TERMS, "They change nothing", "return Long.MIN_VALUE - BAD;", "latestFinding = 1; told.scene.minutes = 0; return Long.MIN_VALUE - BAD;");
        on(TERMS, "Where the answer is a long", "return Long.MIN_VALUE - BAD;", "return BAD;");
        on(TERMS, "Where the answer is a long", "return Long.MIN_VALUE - BAD;", "return Long.MIN_VALUE;");
    }

    private void ofPromisesToEight() {
        on(1, "No CELLS", "int minutes = 0; int candidates = 0;", "int minutes = 1; int candidates = 0;");
        on(1, "No CELLS", "faults[text] = NONE;", "faults[text] = 0;");
        on(1, "all SHEETS", "int form = NONE; int size", "int form = BYTES; int size");
        on(2, "A byte", "b < 0 || b > 255", "b < 0 || b > 254");
        on(2, "A byte", "b < 0 || b > 255", "b < 1 || b > 255");
        on(2, "A byte", "return texts[text].length(); } public int wipe", "return texts[text].length() - 1; } public int wipe");
        on(2, "BAD; FULL", "b < 0 || b > 255", "b < 0 || b > 256");
        on(2, "BAD; FULL", "b < 0 || b > 255", "b < -1 || b > 255");
        on(2, "BAD; FULL", "if (texts[text].isFull()) { return FULL;", "if (texts[text].isFull()) { return BAD;");
        on(3, "A text is empty", "texts[text].shorten(had);", "texts[text].shorten(had - 1);");
        on(3, "A text is empty", "retell(text); return had;", "retell(text); return texts[text].length();");
        on(3, "BAD", "public int wipe(int text) { if (!isText(text)) { return BAD;", "public int wipe(int text) { if (!isText(text)) { return 0;");
        on(4, "The last byte", "texts[text].shorten(1);", "texts[text].shorten(2);");
        on(4, "The last byte", "texts[text].shorten(1); retell(text); return texts[text].length();", "texts[text].shorten(1); retell(text); return texts[text].length() + 1;");
        on(4, "BAD; NOT", "return NOT; } texts[text]", "return 0; } texts[text]");
        on(4, "BAD; NOT", "public int undo(int text) { if (!isText(text)) { return BAD;", "public int undo(int text) { if (!isText(text)) { return NOT;");
        on(5, "The FAULT", "return isText(text) ? faults[text] : BAD;", "return isText(text) ? faults[CORNER] : BAD;");
        on(5, "BAD", "return isText(text) ? faults[text] : BAD;", "return isText(text) ? faults[text] : NONE;");
        on(6, "What a CELL", "return told.scene.isWall(cell) ? 1 : 0;", "return told.scene.isWall(cell) ? 0 : 1;");
        on(6, "What a CELL", "if (cell < 0 || cell >= MOST_CELLS) {", "if (cell < 0 || cell >= MOST_CELLS - 1) {");
        on(6, "NONE", "if (!told.scene.isCell(cell)) { return NONE;", "if (!told.scene.isCell(cell)) { return BAD;");
        on(6, "BAD", "if (cell < 0 || cell >= MOST_CELLS) { return BAD;", "if (cell < 0 || cell >= MOST_CELLS) { return NONE;");
        on(7, "From where", "return what == 0 ? told.scene.from[minute]", "return what == 1 ? told.scene.from[minute]");
        on(7, "BAD", "what > 1) { return BAD; } return what == 0 ? told", "what > 2) { return BAD; } return what == 0 ? told");
        on(7, "BAD", "public int gust(int minute, int what) { if (!isMinute(minute) ||", "public int gust(int minute, int what) { if (!isMinute(Math.max(0, minute)) || minute < -1 ||");
        on(8, "The CELL as told", "case 3: return told.isSomewhere(candidate) ? 1 : 0;", "case 3: return told.isSomewhere(candidate) ? 0 : 1;");
        on(8, "The CELL as told", "case 0: return told.scene.at[candidate];", "case 0: return told.isSomewhere(candidate) ? told.scene.at[candidate] : NONE;");
        on(8, "BAD", "default: return BAD; } } public int wind", "default: return 0; } } public int wind");
        on(8, "BAD", "return candidate >= 0 && candidate < told.scene.candidates && candidate < MOST_CANDIDATES;", "return candidate >= 0 && candidate < MOST_CANDIDATES;");
    }

    private void ofPromisesToEighteen() {
        on(9, "The WIND", "return told.windOn(minute, cell); } public int ribs", "return Math.min(6, told.windOn(minute, cell)); } public int ribs");
        on(9, "BAD", "if (!isMinute(minute) || !told.scene.isCell(cell)) { return BAD;", "if (!isMinute(minute) || !told.scene.isCell(cell)) { return 0;");
        on(9, "BAD", "if (!isMinute(minute) || !told.scene.isCell(cell)) {", "if (!isMinute(minute) || cell < 0 || cell >= MOST_CELLS) {");
        on(10, "RIBS", "return told.ribsAhead(minute, candidate);", "return told.ribsAhead(0, candidate);");
        on(10, "BAD", "if (!isMinute(minute) || !isCandidate(candidate)) { return BAD;", "if (!isMinute(minute) || !isCandidate(candidate)) { return 0;");
        on(11, "The MINUTE", "case 1: return told.isReturned(candidate) ? 1 : 0;", "case 2: return told.isReturned(candidate) ? 1 : 0;"
            + " case 1: return told.isElected(candidate) ? 1 : 0; } switch (what) {");
        on(11, "BAD", "default: return BAD; } } public int in(", "default: return NONE; } } public int in(");
        on(12, "Who is IN", "? told.whoIsIn(minute) : BAD;", "? Math.max(0, told.whoIsIn(minute)) : BAD;");
        on(12, "BAD", "? told.whoIsIn(minute) : BAD;", "? told.whoIsIn(minute) : NONE;");
        on(13, "FIRST", "return what == 0 ? minute : who; } } return NONE;", "return what == 0 ? minute : who; } } return BAD;");
        on(13, "FIRST", "return what == 0 ? minute : who;", "return what == 1 ? minute : who;");
        on(13, "BAD", "what > 1) { return BAD; } for (int minute", "what > 2) { return BAD; } for (int minute");
        on(14, "LULLS", "return told.minutesBehindWhichIn(NONE);", "return Math.min(11, told.minutesBehindWhichIn(NONE));");
        on(14, "LULLS", "return told.minutesBehindWhichIn(NONE);", "return told.scene.minutes == 0 ? NONE : told.minutesBehindWhichIn(NONE);");
        on(15, "STAND", "return what == 0 ? place : soonest;", "return what == 1 ? place : soonest;");
        on(15, "STAND", "trial.scene.at[candidate] = cell; int minute", "trial.scene.at[candidate] = cell; told.scene.at[candidate] = cell; int minute");
        on(15, "BAD", "what > 1) { return BAD; } trial.scene.tellAs(told.scene); int place", "what > 2) { return BAD; } trial.scene.tellAs(told.scene); int place");
        on(15, "BAD", "public int stand(int candidate, int what) { if (!isCandidate(candidate) ||", "public int stand(int candidate, int what) { if (!isCandidate(candidate)) { return NONE; } if (");
        on(16, "SHIELD", "return 32 * other + cell; } } return NONE;", "return 32 * other + cell; } } return NOT;");
        on(16, "SHIELD", "trial.scene.at[other] = cell;", "trial.scene.at[other] = cell; told.scene.at[other] = cell;");
        on(16, "BAD", "public int shield(int candidate) { if (!isCandidate(candidate)) { return BAD;", "public int shield(int candidate) { if (!isCandidate(candidate)) { return NOT;");
        on(17, "MOVE", "return what == 0 ? many : least;", "return what == 1 ? many : least;");
        on(17, "MOVE", "int least = NONE;", "int least = 0;");
        on(17, "MOVE", "trial.scene.wall[cell] = 0;", "trial.scene.wall[cell] = 0; told.scene.wall[cell] = 0;");
        on(17, "BAD", "what > 1) { return BAD; } int many", "what > 2) { return BAD; } int many");
        on(18, "BRIBE", "return fewer; } } return NONE;", "return fewer; } } return 0;");
        on(18, "BRIBE", "trial.scene.ribs[candidate] = ribs - fewer;", "trial.scene.ribs[candidate] = ribs - fewer; told.scene.ribs[candidate] = ribs - fewer;");
        on(18, "BAD", "public int bribe(int candidate) { if (!isCandidate(candidate)) { return BAD;", "public int bribe(int candidate) { if (!isCandidate(candidate)) { return NONE;");
    }

    private void ofPromisesToTwentySix() {
        on(19, "SEEN more", "return sightings.many; } public int forget", "return sightings.many - 1; } public int forget");
        on(19, "BAD; FULL", "minute >= 0 && minute < MOST_MINUTES && candidate >= 0 && candidate <= NOBODY", "minute >= 0 && minute <= MOST_MINUTES && candidate >= 0 && candidate <= NOBODY");
        on(19, "BAD; FULL", "candidate <= NOBODY; }", "candidate <= NOBODY + 1; }");
        on(19, "BAD; FULL", "if (sightings.isFull()) { return FULL;", "if (sightings.isFull()) { return BAD;");
        on(20, "All SEEN", "sightings.many = 0; inquiredMinute = NONE;", "sightings.many = 0;");
        on(20, "All SEEN", "sightings.many = 0;", "sightings.many = had / 2;");
        on(21, "SEEN more", "sheets[s].size / 2;", "(sheets[s].size + 1) / 2;");
        on(21, "SEEN more", "int pairs = sheets[s].size / 2;", "sightings.many = 0; int pairs = sheets[s].size / 2;");
        on(21, "SEEN more", "seen(sheets[s].item(2 * pair), sheets[s].item(2 * pair + 1))", "seen(sheets[s].item(pair), sheets[s].item(pair + 1))");
        on(21, "one by one", "< 0) { return pair; }", "< 0) { continue; }");
        on(21, "one by one", "< 0) { return pair; }", "< 0) { return pairs; }");
        on(21, "one by one", "< 0) { return pair; }", "< 0) { return pair + 1; }");
        on(21, "BAD; NULL", "public int read(int s) { if (!isSheet(s)) { return BAD;", "public int read(int s) { if (!isSheet(s)) { return 0;");
        on(21, "BAD; NULL", "return finding(NULL); } int pairs", "return 0; } int pairs");
        on(22, "BLEW", "return i == NONE ? many : NONE;", "return many;");
        on(22, "BLEW", "i >= POSSIBLE_GUSTS) {", "i >= POSSIBLE_GUSTS - 1) {");
        on(22, "BAD", "i >= POSSIBLE_GUSTS) {", "i > POSSIBLE_GUSTS) {");
        on(22, "BAD", "i < NONE || i >=", "i < NONE - 1 || i >=");
        on(22, "BAD", "public int blew(int minute, int i) { if (!isMinute(minute) ||", "public int blew(int minute, int i) { if (!isMinute(minute)) { return 0; } if (");
        on(23, "HAD", "int bits = 0;", "int bits = 1;");
        on(23, "BAD", "public int had(int candidate) { if (!isCandidate(candidate)) { return BAD;", "public int had(int candidate) { if (!isCandidate(candidate)) { return 0;");
        on(24, "ASK", "return best; }", "return minute; }");
        on(24, "ASK", "other < told.scene.minutes && other < MOST_MINUTES; other++", "other < told.scene.minutes && other < MOST_MINUTES - 1; other++");
        on(24, "BAD", "public int ask(int minute) { if (!isMinute(minute)) { return BAD;", "public int ask(int minute) { if (!isMinute(minute)) { return 0;");
        on(25, "CALM", "return what == 0 ? above : 1L << halvings;", "return what == 1 ? above : 1L << halvings;");
        on(25, "BAD", "what > 1) { return Long.MIN_VALUE - BAD;", "what > 2) { return Long.MIN_VALUE - BAD;");
        on(25, "BAD", "if (c < 0 || c > SIXTEENTHS ||", "if (c < 0 || c > SIXTEENTHS + 1 ||");
        on(25, "BAD", "return Long.MIN_VALUE - BAD;", "return Long.MIN_VALUE - NONE;");
        on(26, "WEATHER", "return what == 0 ? trial.whoIsInLast() : trial.manyTurned();", "return what == 1 ? trial.whoIsInLast() : trial.manyTurned();");
        on(26, "BAD", "n < 1 || n > MOST_MINUTES", "n < 0 || n > MOST_MINUTES");
        on(26, "BAD", "n < 1 || n > MOST_MINUTES || what < 0 || what > 1", "n < 1 || n > MOST_MINUTES || what < 0 || what > 2");
    }

    private void ofPromisesToTheEnd() {
        on(27, "A SHEET", "sheets[s].renew(form, n); return n;", "sheets[s].renew(form, n); return 1;");
        on(27, "A SHEET", "form = newForm;", "form = form == NONE ? newForm : form;");
        on(27, "BAD", "n > MOST_ITEMS) { return BAD;", "n > MOST_ITEMS + 1) { return BAD;");
        on(27, "BAD", "n > MOST_ITEMS) { return BAD;", "n > MOST_ITEMS) { return finding(SIZE);");
        on(28, "It is LOST", "sheets[s].discard(); return had;", "return had;");
        on(28, "It is LOST", "int had = sheets[s].size;", "int had = Math.max(1, sheets[s].size);");
        on(28, "BAD; NULL", "return finding(NULL); } int had", "return BAD; } int had");
        on(28, "BAD; NULL", "public int lose(int s) { if (!isSheet(s)) { return BAD;", "public int lose(int s) { if (!isSheet(s)) { return finding(NULL);");
        on(29, "Item i", "form == BYTES ? (byte) v", "form == BYTES ? v & 255");
        on(29, "Item i", "form == BYTES ? (byte) v", "form == BYTES ? Math.max(-128, Math.min(127, v))");
        on(29, "Item i", "sheets[s].setItem(i, v); return 1;", "sheets[s].setItem(i, v); return v;");
        on(29, "BAD; NULL", "if (form != asForm) { return CAST; } return i < 0 || i >= size ? INDEX : 0;", "if (i < 0 || i >= size) { return INDEX; } return form != asForm ? CAST : 0;");
        on(29, "BAD; NULL", "public int put(int s, int form, int i, int v) { if (!isSheet(s) || !isForm(form)) {", "public int put(int s, int form, int i, int v) { if (!isSheet(s)) {");
        on(30, "Item i", "return sheets[s].item(i);", "return sheets[s].item(0);");
        on(30, "BAD", "return Integer.MIN_VALUE; } int hindrance", "return BAD; } int hindrance");
        on(30, "so are", "finding(hindrance); return Integer.MIN_VALUE;", "return finding(hindrance);");
        on(30, "so are", "finding(hindrance); return Integer.MIN_VALUE;", "return Integer.MIN_VALUE;");
        on(31, "n items", "System.arraycopy(sheets[s].items, i, sheets[t].items, j, n);", "for (int k = 0; k < n; k++) { sheets[t].items[j + k] = sheets[s].items[i + k]; }");
        on(31, "n items", "System.arraycopy(sheets[s].items, i, sheets[t].items, j, n);", "for (int k = n - 1; k >= 0; k--) { sheets[t].items[j + k] = sheets[s].items[i + k]; }");
        on(31, "BAD", "if (sheets[s].isLost() || sheets[t].isLost()) {", "if (sheets[s].isLost()) {");
        on(31, "BAD", "if (!isSheet(s) || !isSheet(t)) { return BAD;", "if (!isSheet(s) || sheets[s].isLost() || !isSheet(t)) { return BAD;");
        on(31, "INDEX", "first >= 0 && n >= 0 &&", "first >= -1 && n >= 0 &&");
        on(31, "INDEX", "first >= 0 && n >= 0 && first <= size && n <= size - first", "first >= 0 && n >= 0 && (n == 0 || first <= size && n <= size - first)");
        on(31, "INDEX", "first >= 0 && n >= 0 && first <= size && n <= size - first", "first >= 0 && n >= 0 && first < size && n <= size - first");
        on(31, "INDEX", "|| !sheets[t].hasItems(j, n)) {", "|| j < 0 || n > sheets[t].size) {");
        on(31, "INDEX", "first >= 0 && n >= 0 &&", "n == -1 || first >= 0 && n >= 0 &&");
        on(32, "The WIND", "sheets[s].setItem(cell, told.windOn(minute, cell)); } return many;", "sheets[s].setItem(cell, told.windOn(minute, cell)); } return told.scene.cells;");
        on(32, "The WIND", "Math.min(sheets[s].size, told.scene.cells);", "sheets[s].size;");
        on(32, "The WIND", "sheets[s].setItem(cell, told", "sheets[s].setItem(cell + 1, told");
        on(32, "BAD; NULL", "if (!isMinute(minute) || !isSheet(s)) { return BAD;", "if (!isMinute(minute) || !isSheet(s)) { return 0;");
        on(32, "BAD; NULL", "return finding(NULL); } int many", "return BAD; } int many");
        on(33, "0 CELLS", "case 6: return told.manyTurned();", "case 6: return told.scene.minutes - lulls();");
        on(33, "0 CELLS", "case 4: return texts[GUSTS].length();", "case 4: return 2 * told.scene.minutes;");
        on(33, "8 the number", "latestFinding = number;", "latestFinding = latestFinding == 0 ? number : latestFinding;");
        on(33, "8 the number", "private int latestFinding = 0;", "private int latestFinding = NONE;");
        on(33, "BAD", "default: return BAD; } } public long digest", "default: return 0; } } public long digest");
        on(34, "h is 17", "long h = 17L;", "long h = 18L;");
        on(34, "h is 17", "what <= 7; what++) { h = 31L * h + count(what);", "what <= 8; what++) { h = 31L * h + count(what);");
        on(34, "h is 17", "h = 31L * h + fault(text);", "h = 31L * h + fault(TEXTS - 1 - text);");
        on(34, "of CELLS", "h = 31L * h + in(minute); h = 31L * h + ask(minute);", "h = 31L * h + ask(minute); h = 31L * h + in(minute);");
        on(34, "of CELLS", "h = 31L * h + blew(minute, 0);", "h = 31L * h + blew(minute, 1);");
        on(34, "of CANDIDATES", "h = 31L * h + first(0);", "");
        on(34, "of CANDIDATES", "h = 31L * h + calm(5, candidate, 0);", "h = 31L * h + calm(4, candidate, 0);");
        on(34, "of CANDIDATES", "h = 31L * h + weather(7, 9, 1);", "h = (int) (31L * h + weather(7, 9, 1));");
    }
}
