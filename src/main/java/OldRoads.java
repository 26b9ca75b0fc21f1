import java.util.Arrays;
import java.util.NoSuchElementException;

/** Roads that must have been: a land, its towns and goers, and the ways, lines, books and nets of it. */
public final class OldRoads {
    public static final int NONE = -1;
    public static final int HIDDEN = -100000;

    private static final int NO_SORT = -2;
    private static final int WIDE = 12;
    private static final int HIGH = 10;
    private static final int CELLS = 120;
    private static final int LAYERS = 4;
    private static final int DIRECTIONS = 8;
    private static final int[] EAST = {0, 1, 1, 1, 0, -1, -1, -1};
    private static final int[] SOUTH = {-1, -1, 0, 1, 1, 1, 0, -1};

    private static final int MOST_HEIGHT = 99;
    private static final int MOST_TOWNS = 8;
    private static final int MOST_GOERS = 6;
    private static final int MOST_BOOKS = 4;
    private static final int MOST_LINES = 10;
    private static final int MOST_BY_HAND = 60;
    private static final int MOST_FINDS = 30;
    private static final int MOST_KNOWN = 6;
    private static final int MOST_PITS = 6;
    private static final int MOST_FIELDS = 8;
    private static final int MOST_ERAS = 4;
    private static final int MOST_BYTES = 120;
    private static final int MOST_LOAD = 99;
    private static final int MOST_WEIGHT = 9;
    private static final int MOST_FAR = 5;
    private static final int MOST_SIGHT = 11;
    private static final int MOST_BY = 20;
    private static final int MOST_TROD = 99;
    private static final int MOST_TRIPS = 40;
    private static final int MOST_EASE = 9;
    private static final int ALL_SORTS = 15;
    private static final int SORTS = 4;
    // Eleven hops of eleven STEPS are the longest row of SIGHTS, and a WAY has no CELL twice.
    private static final int LONGEST_LINE = 128;

    private static final int GOER = 0;
    private static final int BOOK = 1;
    private static final int CUTS = 1;
    private static final int FOLLOWS = 2;

    private final Land land = new Land();
    private final Land[] eras = new Land[MOST_ERAS];
    private int eraCount;
    private final Row tape = new Row(MOST_BYTES);
    private final GoerReader reader = new GoerReader();
    private final Goer[] goers = new Goer[MOST_GOERS];
    private int goerCount;
    // One more than there may be: the one behind the last is the draft that a text is read into.
    private final Book[] books = new Book[MOST_BOOKS + 1];
    private int bookCount;
    private final Row towns = new Row(MOST_TOWNS);
    private final Row[] lines = new Row[MOST_LINES];
    private int lineCount;
    private final Row knownLines = new Row(MOST_KNOWN);
    private final Row fieldSides = new Row(MOST_FIELDS * 4);
    private final Ways ways = new Ways();
    private final Sight sight = new Sight();
    private final Finds finds = new Finds();
    private final Pits pits = new Pits();
    private final Feet walkers = new Feet();
    private final Net roads = new Net();

    public OldRoads() {
        for (int i = 0; i < eras.length; i++) {
            eras[i] = new Land();
        }
        for (int i = 0; i < goers.length; i++) {
            goers[i] = new Goer();
        }
        for (int i = 0; i < books.length; i++) {
            books[i] = new Book();
        }
        for (int i = 0; i < lines.length; i++) {
            lines[i] = new Row(LONGEST_LINE);
        }
    }

    // ---- the land and its towns

    public boolean draw(int x, int y, int x2, int y2, int what, int v) {
        if (!isBox(x, y, x2, y2) || !isLayer(what)) {
            return false;
        }
        if (v < 0 || v > (what == 0 ? MOST_HEIGHT : 1)) {
            return false;
        }
        for (int row = y; row <= y2; row++) {
            for (int column = x; column <= x2; column++) {
                land.put(row * WIDE + column, what, v);
            }
        }
        return true;
    }

    public int drawn(int cell, int what) {
        return isCell(cell) && isLayer(what) ? land.told(cell, what) : NONE;
    }

    public int town(int cell) {
        if (!isCell(cell) || towns.has(cell) || !towns.add(cell)) {
            return NONE;
        }
        return towns.size - 1;
    }

    // ---- texts

    public int feed(int a, int b, int c, int d, int e) {
        int more = bytesIn(a) + bytesIn(b) + bytesIn(c) + bytesIn(d) + bytesIn(e);
        if (tape.size + more > MOST_BYTES) {
            return NONE;
        }
        addBytes(a);
        addBytes(b);
        addBytes(c);
        addBytes(d);
        addBytes(e);
        return tape.size;
    }

    public boolean end(int n) {
        return tape.cut(n);
    }

    public int fault(int sort) {
        if (sort == GOER) {
            return reader.reads(tape) ? NONE : reader.at;
        }
        if (sort == BOOK) {
            return books[bookCount].reads(tape, towns.size) ? NONE : books[bookCount].at;
        }
        return NO_SORT;
    }

    public int text(int sort) {
        if (sort == GOER && goerCount < MOST_GOERS && reader.reads(tape)) {
            goers[goerCount].take(reader.draft);
            goerCount++;
            tape.cut(0);
            return goerCount - 1;
        }
        if (sort == BOOK && bookCount < MOST_BOOKS && books[bookCount].reads(tape, towns.size)) {
            bookCount++;
            tape.cut(0);
            return bookCount - 1;
        }
        return NONE;
    }

    // ---- ways

    public int pain(int goer, int load, boolean wet, int cell, int direction) throws NoSuchElementException {
        if (!isManner(goer, load) || stepFrom(cell, direction) == NONE) {
            throw new NoSuchElementException();
        }
        ways.fit(goers[goer], load, wet, land);
        return ways.toll(cell, direction);
    }

    public int pains(int goer, int load, boolean wet, int from, int to) {
        return goes(land, goer, load, wet, from, to) ? ways.least(from) : NONE;
    }

    public int way(int goer, int load, boolean wet, int from, int to, int i) {
        if (!goes(land, goer, load, wet, from, to)) {
            return NONE;
        }
        return i == NONE ? ways.row.size - 1 : ways.row.at(i);
    }

    public int nearly(int goer, int load, boolean wet, int from, int to, int hundredths, int cell) {
        if (hundredths < 0 || hundredths > 100 || !isCellOrNone(cell)) {
            return NONE;
        }
        if (!goes(land, goer, load, wet, from, to)) {
            return NONE;
        }
        int least = ways.least(from);
        int most = least + least * hundredths / 100;
        ways.spreadFrom(from);
        if (cell != NONE) {
            return ways.through(cell) <= most ? 1 : 0;
        }
        int many = 0;
        for (int c = 0; c < CELLS; c++) {
            if (ways.through(c) <= most) {
                many++;
            }
        }
        return many;
    }

    // ---- sights

    public int sees(int one, int other) {
        if (!isCell(one) || !isCell(other) || one == other) {
            return NONE;
        }
        return sight.isSeen(land, one, other) ? 1 : 0;
    }

    public int sights(int from, int to, int far, int i) {
        if (!looks(from, to, far)) {
            return NONE;
        }
        return i == NONE ? sight.row.size - 1 : sight.row.at(i);
    }

    // ---- lines

    public int lineOfWay(int goer, int load, boolean wet, int from, int to) {
        if (lineCount >= MOST_LINES || !goes(land, goer, load, wet, from, to)) {
            return NONE;
        }
        return keepLine(ways.row);
    }

    public int lineOfSight(int from, int to, int far) {
        if (lineCount >= MOST_LINES || !isCell(from) || !isCell(to)) {
            return NONE;
        }
        if (far == 0) {
            sight.hopStraight(from, to);
        } else if (!looks(from, to, far)) {
            return NONE;
        }
        sight.trace();
        return keepLine(sight.traced);
    }

    public int lineAt(int cell) {
        if (lineCount >= MOST_LINES || !isCell(cell)) {
            return NONE;
        }
        sight.hopStraight(cell, cell);
        return keepLine(sight.row);
    }

    public int goOn(int direction) {
        if (!isLine(lineCount - 1)) {
            return NONE;
        }
        Row latest = lines[lineCount - 1];
        int next = stepFrom(latest.last(), direction);
        if (next == NONE || latest.size >= MOST_BY_HAND || !latest.add(next)) {
            return NONE;
        }
        return latest.size;
    }

    public int line(int line, int i) {
        if (!isLine(line)) {
            return NONE;
        }
        return i == NONE ? lines[line].size : lines[line].at(i);
    }

    public int about(int line, int what) {
        if (!isLine(line)) {
            return NONE;
        }
        switch (what) {
            case 0:
                return lines[line].miles();
            case 1:
                return lines[line].turns();
            case 2:
                return lines[line].longestRun();
            default:
                return NONE;
        }
    }

    // ---- finds

    public int find(int cell, int sort, int weight) {
        if (!isCell(cell) || sort < 0 || sort >= SORTS || weight < 1 || weight > MOST_WEIGHT) {
            return NONE;
        }
        return finds.add(cell, sort, weight);
    }

    public int near(int line, int far, int sorts) {
        return isSearch(line, far, sorts) ? finds.nearMoved(lines[line], 0, 0, far, sorts) : NONE;
    }

    public int against(int line, int far, int sorts, int what) {
        if (!isSearch(line, far, sorts) || what < 0 || what > 1) {
            return NONE;
        }
        return finds.besides(lines[line], far, sorts, what == 0);
    }

    // ---- known roads

    public int known(int line) {
        if (!isLine(line) || knownLines.has(line) || !knownLines.add(line)) {
            return NONE;
        }
        return knownLines.size;
    }

    public int miss(int goer, int load, boolean wet, int i) {
        if (!isManner(goer, load) || i < 0 || i >= knownLines.size) {
            return NONE;
        }
        ways.fit(goers[goer], load, wet, land);
        return missOf(i);
    }

    public int best(int load, boolean wet, int what) {
        if (!isManner(0, load) || what < 0 || what > 1) {
            return NONE;
        }
        fillMisses(load, wet);
        int goer = bestBut(NONE);
        return what == 0 ? goer : fitBut(goer, NONE);
    }

    public int tried(int load, boolean wet) {
        if (!isManner(0, load) || knownLines.size < 2) {
            return NONE;
        }
        fillMisses(load, wet);
        int sum = 0;
        for (int i = 0; i < knownLines.size; i++) {
            sum += goers[bestBut(i)].misses[i];
        }
        return sum;
    }

    // ---- books

    public int stage(int book, int stage, int what) throws NoSuchElementException {
        if (!isStage(book, stage) || what < 0 || what > 2) {
            throw new NoSuchElementException();
        }
        if (what == 2) {
            return books[book].milesTold(stage);
        }
        return books[book].townAt(stage + what);
    }

    public int off(int book, int stage, int goer, int load, boolean wet) {
        if (!isStage(book, stage) || !isManner(goer, load)) {
            return HIDDEN;
        }
        ways.fit(goers[goer], load, wet, land);
        return books[book].milesTold(stage) - milesOfStage(books[book], stage);
    }

    public int slip(int book, int stage, int goer, int load, boolean wet, int by) {
        if (!isStage(book, stage) || !isManner(goer, load) || !isBy(by)) {
            return NONE;
        }
        ways.fit(goers[goer], load, wet, land);
        return slipOf(books[book].milesTold(stage), milesOfStage(books[book], stage), by);
    }

    public int holds(int book, int goer, int by) {
        if (book < 0 || book >= bookCount || !isManner(goer, 0) || !isBy(by)) {
            return NONE;
        }
        ways.fit(goers[goer], 0, false, land);
        int many = 0;
        for (int t = 0; t < towns.size; t++) {
            many += holdsInto(books[book], t, by);
        }
        return many;
    }

    // ---- worlds

    public boolean weigh(int goer, int weight) {
        if (goer < 0 || goer >= goerCount || weight < 0 || weight > MOST_WEIGHT) {
            return false;
        }
        goers[goer].weight = weight;
        return true;
    }

    public int evidence(int goer, int from, int to) {
        if (!isManner(goer, 0) || !areTwoTowns(from, to)) {
            return NONE;
        }
        return evidenceOf(goer, from, to);
    }

    public int odds(int from, int to, int cell) {
        if (!areTwoTowns(from, to) || !isCellOrNone(cell)) {
            return NONE;
        }
        int sum = 0;
        for (int g = 0; g < goerCount; g++) {
            int worth = evidenceOf(g, from, to);
            if (cell == NONE || ways.row.has(cell)) {
                sum += worth;
            }
        }
        return sum;
    }

    public int pit(int cell) {
        if (!isCell(cell) || !pits.cells.add(cell)) {
            return NONE;
        }
        return pits.cells.size - 1;
    }

    public int dig(int from, int to, int many) {
        if (!areTwoTowns(from, to) || many < 0 || many > MOST_PITS) {
            return NONE;
        }
        pits.forgetWorlds();
        for (int g = 0; g < goerCount; g++) {
            pits.addWorld(evidenceOf(g, from, to), ways.row);
        }
        return pits.bestSet(many);
    }

    // ---- fields and hedges

    public int field(int x, int y, int x2, int y2) {
        if (!isBox(x, y, x2, y2) || fieldSides.size / 4 >= MOST_FIELDS) {
            return NONE;
        }
        fieldSides.add(x);
        fieldSides.add(y);
        fieldSides.add(x2);
        fieldSides.add(y2);
        return fieldSides.size / 4 - 1;
    }

    public int meets(int line, int field) {
        if (!isLine(line) || field < 0 || field >= fieldSides.size / 4) {
            return NONE;
        }
        return meeting(lines[line], field);
    }

    public int older(int line) {
        if (!isLine(line)) {
            return HIDDEN;
        }
        int sum = 0;
        for (int f = 0; f < fieldSides.size / 4; f++) {
            int meeting = meeting(lines[line], f);
            if ((meeting & CUTS) != 0) {
                sum++;
            } else if ((meeting & FOLLOWS) != 0) {
                sum--;
            }
        }
        return sum;
    }

    public int hedge(int line, int many, int what) {
        if (!isLine(line) || many < 2 || many > WIDE || what < 0 || what > 1) {
            return NONE;
        }
        int sum = 0;
        for (int cell = 0; cell < CELLS; cell++) {
            for (int direction = 2; direction <= 5; direction++) {
                if (!staysInLand(cell, direction, many - 1)) {
                    continue;
                }
                if (what == 1 || lies(lines[line], cell, direction, many)) {
                    sum++;
                }
            }
        }
        return sum;
    }

    // ---- the net and the feet

    public int net(int goer, int load, boolean wet, int what) {
        if (!isManner(goer, load) || towns.size < 2 || what < 0 || what > 2) {
            return NONE;
        }
        ways.fit(goers[goer], load, wet, land);
        roads.begin(towns.size);
        for (int b = 1; b < towns.size; b++) {
            ways.spreadTo(towns.at(b));
            for (int a = 0; a < b; a++) {
                roads.put(a, b, ways.least(towns.at(a)));
            }
        }
        if (what == 0) {
            return roads.cost();
        }
        return roads.needed(what == 1);
    }

    public int feet(int goer, int load, boolean wet, long seed, int trips, int ease) {
        if (!isManner(goer, load) || towns.size < 2) {
            return NONE;
        }
        if (trips < 1 || trips > MOST_TRIPS || ease < 0 || ease > MOST_EASE) {
            return NONE;
        }
        ways.fit(goers[goer], load, wet, land);
        walkers.begin(seed);
        for (int trip = 1; trip <= trips; trip++) {
            walkers.goOnce(ways, towns, trip, ease);
        }
        return walkers.troddenCells(1);
    }

    public int trodden(int cell) {
        return isCell(cell) ? walkers.trod[cell] : NONE;
    }

    public int trips(int what) {
        if (!walkers.walked || what < 0 || what > 1) {
            return NONE;
        }
        return what == 0 ? walkers.fresh : walkers.settled;
    }

    public int worn(int often) {
        return isOften(often) ? walkers.troddenCells(often) : NONE;
    }

    public int alike(int line, int often) {
        if (!isLine(line) || !isOften(often)) {
            return NONE;
        }
        int many = 0;
        for (int cell = 0; cell < CELLS; cell++) {
            if (walkers.trod[cell] >= often && lines[line].has(cell)) {
                many++;
            }
        }
        return many;
    }

    // ---- eras

    public int era() {
        if (eraCount >= MOST_ERAS) {
            return NONE;
        }
        eras[eraCount].take(land);
        eraCount++;
        return eraCount - 1;
    }

    public int bring(int era) {
        if (!isEra(era)) {
            return NONE;
        }
        int many = land.unlikeCells(eras[era]);
        land.take(eras[era]);
        return many;
    }

    public int changed(int era) {
        return isEra(era) ? land.unlikeCells(eras[era]) : NONE;
    }

    public int then(int era, int goer, int load, boolean wet, int from, int to, int i) {
        if (!isEra(era) || !goes(eras[era], goer, load, wet, from, to)) {
            return NONE;
        }
        return i == NONE ? ways.least(from) : ways.row.at(i);
    }

    public int lasting(int goer, int load, boolean wet, int from, int to) {
        if (!goes(land, goer, load, wet, from, to)) {
            return NONE;
        }
        if (eraCount == 0) {
            return 0;
        }
        ways.kept.take(ways.row);
        for (int e = 0; e < eraCount; e++) {
            goes(eras[e], goer, load, wet, from, to);
            ways.kept.keepThoseIn(ways.row);
        }
        return ways.kept.size;
    }

    public int count(int what) {
        switch (what) {
            case 0:
                return towns.size;
            case 1:
                return goerCount;
            case 2:
                return bookCount;
            case 3:
                return lineCount;
            case 4:
                return finds.cells.size;
            case 5:
                return knownLines.size;
            case 6:
                return pits.cells.size;
            case 7:
                return fieldSides.size / 4;
            case 8:
                return tape.size;
            case 9:
                return eraCount;
            default:
                return NONE;
        }
    }

    // ---- what there is

    private static boolean isCell(int cell) {
        return cell >= 0 && cell < CELLS;
    }

    private static boolean isCellOrNone(int cell) {
        return cell == NONE || isCell(cell);
    }

    private static boolean isLayer(int what) {
        return what >= 0 && what < LAYERS;
    }

    private static boolean isBox(int x, int y, int x2, int y2) {
        return x >= 0 && x <= x2 && x2 < WIDE && y >= 0 && y <= y2 && y2 < HIGH;
    }

    private static boolean isBy(int by) {
        return by >= 0 && by <= MOST_BY;
    }

    private static boolean isOften(int often) {
        return often >= 1 && often <= MOST_TROD;
    }

    private boolean isManner(int goer, int load) {
        return goer >= 0 && goer < goerCount && load >= 0 && load <= MOST_LOAD;
    }

    private boolean isLine(int line) {
        return line >= 0 && line < lineCount;
    }

    private boolean isSearch(int line, int far, int sorts) {
        return isLine(line) && far >= 0 && far <= MOST_FAR && sorts >= 0 && sorts <= ALL_SORTS;
    }

    private boolean isStage(int book, int stage) {
        return book >= 0 && book < bookCount && stage >= 0 && stage < books[book].stages();
    }

    private boolean areTwoTowns(int from, int to) {
        return from >= 0 && from < towns.size && to >= 0 && to < towns.size && from != to;
    }

    private boolean isEra(int era) {
        return era >= 0 && era < eraCount;
    }

    // ---- places in the land

    private static int apart(int one, int other) {
        int x = Math.abs(one % WIDE - other % WIDE);
        int y = Math.abs(one / WIDE - other / WIDE);
        return Math.max(x, y);
    }

    private static boolean staysInLand(int cell, int direction, int steps) {
        int x = cell % WIDE + EAST[direction] * steps;
        int y = cell / WIDE + SOUTH[direction] * steps;
        return x >= 0 && x < WIDE && y >= 0 && y < HIGH;
    }

    /** The CELL beside, or NONE, if there is none or no such direction. */
    private static int stepFrom(int cell, int direction) {
        if (!isCell(cell) || direction < 0 || direction >= DIRECTIONS) {
            return NONE;
        }
        if (!staysInLand(cell, direction, 1)) {
            return NONE;
        }
        return cell + SOUTH[direction] * WIDE + EAST[direction];
    }

    private static boolean lies(Row line, int cell, int direction, int many) {
        int by = SOUTH[direction] * WIDE + EAST[direction];
        for (int i = 0; i < many; i++) {
            if (!line.has(cell + by * i)) {
                return false;
            }
        }
        return true;
    }

    // ---- texts, inside

    private static int bytesIn(int number) {
        int many = 0;
        for (int shift = 24; shift >= 0; shift -= 8) {
            if ((number >>> shift & 255) != 0) {
                many++;
            }
        }
        return many;
    }

    private void addBytes(int number) {
        for (int shift = 24; shift >= 0; shift -= 8) {
            int one = number >>> shift & 255;
            if (one != 0) {
                tape.add(one);
            }
        }
    }

    // ---- ways, sights and lines, inside

    /** Lays the WAY by one LAND; false, if there are no such ones. */
    private boolean goes(Land by, int goer, int load, boolean wet, int from, int to) {
        if (!isManner(goer, load) || !isCell(from) || !isCell(to)) {
            return false;
        }
        ways.fit(goers[goer], load, wet, by);
        ways.lay(from, to);
        return true;
    }

    private boolean looks(int from, int to, int far) {
        if (!isCell(from) || !isCell(to) || far < 1 || far > MOST_SIGHT) {
            return false;
        }
        return sight.countHops(land, from, to, far) && sight.layHops(land, from, to, far);
    }

    private int keepLine(Row cells) {
        if (lineCount >= MOST_LINES) {
            return NONE;
        }
        lines[lineCount].take(cells);
        lineCount++;
        return lineCount - 1;
    }

    // ---- known roads, inside

    /** The MISS of the i-th KNOWN road by the MANNER that the ways are fitted to. */
    private int missOf(int i) {
        int line = knownLines.at(i);
        if (!isLine(line)) {
            return 0;
        }
        Row road = lines[line];
        ways.lay(road.at(0), road.last());
        int many = 0;
        for (int k = 0; k < ways.row.size; k++) {
            int cell = ways.row.at(k);
            if (!road.isNear(cell % WIDE, cell / WIDE, 1)) {
                many++;
            }
        }
        return many;
    }

    private void fillMisses(int load, boolean wet) {
        for (int g = 0; g < goerCount; g++) {
            ways.fit(goers[g], load, wet, land);
            for (int i = 0; i < knownLines.size; i++) {
                goers[g].misses[i] = missOf(i);
            }
        }
    }

    private int fitBut(int goer, int left) {
        int sum = 0;
        for (int i = 0; i < knownLines.size; i++) {
            if (i != left) {
                sum += goers[goer].misses[i];
            }
        }
        return sum;
    }

    private int bestBut(int left) {
        int best = 0;
        for (int g = 1; g < goerCount; g++) {
            if (fitBut(g, left) < fitBut(best, left)) {
                best = g;
            }
        }
        return best;
    }

    // ---- books, inside

    private int milesOfStage(Book book, int stage) {
        ways.lay(towns.at(book.townAt(stage)), towns.at(book.townAt(stage + 1)));
        return ways.row.miles();
    }

    /** HOLDS of the STAGES into one TOWN: their WAYS share one spreading. */
    private int holdsInto(Book book, int to, int by) {
        ways.spreadTo(towns.at(to));
        int many = 0;
        for (int s = 0; s < book.stages(); s++) {
            if (book.townAt(s + 1) != to) {
                continue;
            }
            ways.follow(towns.at(book.townAt(s)), towns.at(to));
            if (slipOf(book.milesTold(s), ways.row.miles(), by) == 0) {
                many++;
            }
        }
        return many;
    }

    private static int slipOf(int told, int real, int by) {
        if (Math.abs(told - real) <= by) {
            return 0;
        }
        if (real > 99) {
            return 3;
        }
        if (told / 10 == real % 10 && told % 10 == real / 10) {
            return 1;
        }
        return told / 10 == real / 10 || told % 10 == real % 10 ? 2 : 3;
    }

    // ---- worlds and fields, inside

    private int evidenceOf(int goer, int from, int to) {
        goes(land, goer, 0, false, towns.at(from), towns.at(to));
        return goers[goer].weight * finds.speakFor(ways.row);
    }

    private int meeting(Row line, int field) {
        int meeting = 0;
        int atRim = 0;
        for (int i = 0; i < line.size; i++) {
            int place = placeIn(field, line.at(i));
            if (place == CUTS) {
                meeting |= CUTS;
            }
            atRim = place == FOLLOWS ? atRim + 1 : 0;
            if (atRim >= 3) {
                meeting |= FOLLOWS;
            }
        }
        return meeting;
    }

    /** CUTS within the FIELD, FOLLOWS at its rim, 0 outside. */
    private int placeIn(int field, int cell) {
        int x = cell % WIDE;
        int y = cell / WIDE;
        int left = fieldSides.at(field * 4);
        int top = fieldSides.at(field * 4 + 1);
        int right = fieldSides.at(field * 4 + 2);
        int bottom = fieldSides.at(field * 4 + 3);
        if (x < left || x > right || y < top || y > bottom) {
            return 0;
        }
        return x == left || x == right || y == top || y == bottom ? FOLLOWS : CUTS;
    }

    /** A row of numbers with a limit: CELLS most often, but bytes of the TAPE too. */
    private static final class Row {
        private final int[] items;
        private int size;

        Row(int limit) {
            items = new int[Math.max(limit, 0)];
        }

        /** False, if the row is full. */
        boolean add(int item) {
            if (size >= items.length) {
                return false;
            }
            items[size] = item;
            size++;
            return true;
        }

        int at(int i) {
            return i >= 0 && i < size ? items[i] : NONE;
        }

        int last() {
            return at(size - 1);
        }

        boolean has(int item) {
            for (int i = 0; i < size; i++) {
                if (items[i] == item) {
                    return true;
                }
            }
            return false;
        }

        boolean cut(int n) {
            if (n < 0 || n > size) {
                return false;
            }
            size = n;
            return true;
        }

        void take(Row other) {
            int many = Math.min(other.size, items.length);
            System.arraycopy(other.items, 0, items, 0, many);
            size = many;
        }

        void keepThoseIn(Row other) {
            int many = 0;
            for (int i = 0; i < size; i++) {
                if (other.has(items[i])) {
                    items[many] = items[i];
                    many++;
                }
            }
            size = many;
        }

        /** Whether some CELL is that far at most from x, y, which may be out of the LAND. */
        boolean isNear(int x, int y, int far) {
            for (int i = 0; i < size; i++) {
                int cell = items[i];
                if (Math.abs(cell % WIDE - x) <= far && Math.abs(cell / WIDE - y) <= far) {
                    return true;
                }
            }
            return false;
        }

        boolean fitsMoved(int x, int y) {
            for (int i = 0; i < size; i++) {
                int movedX = items[i] % WIDE + x;
                int movedY = items[i] / WIDE + y;
                if (movedX < 0 || movedX >= WIDE || movedY < 0 || movedY >= HIGH) {
                    return false;
                }
            }
            return true;
        }

        int miles() {
            int tenths = 0;
            for (int i = 1; i < size; i++) {
                boolean slant = items[i] % WIDE != items[i - 1] % WIDE && items[i] / WIDE != items[i - 1] / WIDE;
                tenths += slant ? 14 : 10;
            }
            return tenths / 10;
        }

        int turns() {
            int many = 0;
            for (int i = 2; i < size; i++) {
                if (turnsAt(i)) {
                    many++;
                }
            }
            return many;
        }

        int longestRun() {
            int longest = 0;
            int run = 0;
            for (int i = 1; i < size; i++) {
                run = turnsAt(i) ? 1 : run + 1;
                longest = Math.max(longest, run);
            }
            return longest;
        }

        /** Whether the STEP to the i-th CELL has another direction than the one ahead of it. */
        private boolean turnsAt(int i) {
            if (i < 2 || i >= size) {
                return false;
            }
            int x = items[i] % WIDE - items[i - 1] % WIDE;
            int y = items[i] / WIDE - items[i - 1] / WIDE;
            int xAhead = items[i - 1] % WIDE - items[i - 2] % WIDE;
            int yAhead = items[i - 1] / WIDE - items[i - 2] / WIDE;
            return x != xAhead || y != yAhead;
        }
    }

    /** HEIGHTS, WATERS, WOODS and MARSHES, of now or of an ERA. */
    private static final class Land {
        private final int[][] layers = new int[LAYERS][CELLS];

        int told(int cell, int what) {
            return what >= 0 && what < LAYERS && cell >= 0 && cell < CELLS ? layers[what][cell] : 0;
        }

        void put(int cell, int what, int v) {
            if (isCell(cell) && isLayer(what)) {
                layers[what][cell] = v;
            }
        }

        void take(Land other) {
            for (int what = 0; what < LAYERS; what++) {
                System.arraycopy(other.layers[what], 0, layers[what], 0, CELLS);
            }
        }

        int unlikeCells(Land other) {
            int many = 0;
            for (int cell = 0; cell < CELLS; cell++) {
                if (isUnlike(other, cell)) {
                    many++;
                }
            }
            return many;
        }

        private boolean isUnlike(Land other, int cell) {
            for (int what = 0; what < LAYERS; what++) {
                if (told(cell, what) != other.told(cell, what)) {
                    return true;
                }
            }
            return false;
        }
    }

    /** A GOER's text as orders, each behind what it works on. */
    private static final class Goer {
        // An order below LETTERS is a number itself; SKIPS and a place leads on to the next CLAUSE.
        private static final int LETTERS = 10000;
        private static final int SIGNS = 20000;
        private static final int SKIPS = 30000;
        private static final int ENDS = 40000;
        private static final int BOUND = 1000000;

        // Each order comes from a byte of its own, so that no text has more orders than bytes.
        private final int[] orders = new int[MOST_BYTES];
        private final int[] stack = new int[MOST_BYTES];
        private int size;
        private int weight = 1;
        private final int[] misses = new int[MOST_KNOWN];

        void add(int order) {
            if (size < orders.length) {
                orders[size] = order;
                size++;
            }
        }

        /** Lets the SKIPS at a place lead behind the last order. */
        void leadOn(int place) {
            if (place >= 0 && place < size) {
                orders[place] = SKIPS + size;
            }
        }

        void take(Goer other) {
            System.arraycopy(other.orders, 0, orders, 0, MOST_BYTES);
            size = other.size;
        }

        /** WORTH, with the values of u d w f m s g t. */
        int worth(int[] letters) {
            int top = 0;
            for (int next = 0; next < size && top < stack.length; next++) {
                int order = orders[next];
                if (order < LETTERS) {
                    stack[top] = order;
                    top++;
                } else if (order < LETTERS + letters.length) {
                    stack[top] = letters[order - LETTERS];
                    top++;
                } else if (order == ENDS) {
                    return top > 0 ? stack[top - 1] : 0;
                } else if (order >= SKIPS) {
                    top = Math.max(top - 1, 0);
                    if (stack[top] == 0) {
                        next = Math.max(next, order - SKIPS - 1);
                    }
                } else if (order == SIGNS + '!' && top > 0) {
                    stack[top - 1] = 1 - stack[top - 1];
                } else if (top > 1) {
                    top--;
                    long joined = joined(order - SIGNS, stack[top - 1], stack[top]);
                    stack[top - 1] = (int) Math.max(-BOUND, Math.min(BOUND, joined));
                }
            }
            return 0;
        }

        private static long joined(int sign, long a, long b) {
            switch (sign) {
                case '+':
                    return a + b;
                case '-':
                    return a - b;
                case '*':
                    return a * b;
                case '/':
                    return b == 0 ? 0 : a / b;
                case '=':
                    return a == b ? 1 : 0;
                case '<':
                    return a < b ? 1 : 0;
                case '>':
                    return a > b ? 1 : 0;
                case '&':
                    return a & b;
                default:
                    return a | b;
            }
        }
    }

    /** Reads the TAPE as a GOER into a draft; where reading fails, there is the FAULT. */
    private static final class GoerReader {
        private static final int DEEPEST = 6;
        private static final int MOST_DIGITS = 4;

        private final Goer draft = new Goer();
        private Row tape = new Row(0);
        private int at;

        boolean reads(Row bytes) {
            tape = bytes;
            at = 0;
            draft.size = 0;
            skipBlanks();
            for (int i = 0; i < MOST_BYTES; i++) {
                if (!clause()) {
                    return false;
                }
                if (at >= tape.size) {
                    return true;
                }
                if (!takes(';')) {
                    return false;
                }
            }
            return false;
        }

        private boolean clause() {
            if (!takes('y') || !takes(':')) {
                return false;
            }
            boolean begun = tape.at(at) != '!' && tape.at(at) != '(';
            if (begun) {
                if (!sum(0)) {
                    return false;
                }
                if (!isComparison(tape.at(at))) {
                    draft.add(Goer.ENDS);
                    return true;
                }
            }
            if (!condition(0, begun) || !takes('?')) {
                return false;
            }
            int skip = draft.size;
            draft.add(Goer.SKIPS);
            if (!sum(0)) {
                return false;
            }
            draft.add(Goer.ENDS);
            draft.leadOn(skip);
            return true;
        }

        /** Begun: the first SUM of the first UNIT is read already. */
        private boolean condition(int depth, boolean begun) {
            if (!truth(depth, begun)) {
                return false;
            }
            for (int i = 0; i < MOST_BYTES && takes('|'); i++) {
                if (!truth(depth, false)) {
                    return false;
                }
                draft.add(Goer.SIGNS + '|');
            }
            return true;
        }

        private boolean truth(int depth, boolean begun) {
            if (!unit(depth, begun)) {
                return false;
            }
            for (int i = 0; i < MOST_BYTES && takes('&'); i++) {
                if (!unit(depth, false)) {
                    return false;
                }
                draft.add(Goer.SIGNS + '&');
            }
            return true;
        }

        private boolean unit(int depth, boolean begun) {
            if (!begun && tape.at(at) == '!') {
                if (depth >= DEEPEST || !takes('!') || !unit(depth + 1, false)) {
                    return false;
                }
                draft.add(Goer.SIGNS + '!');
                return true;
            }
            if (!begun && tape.at(at) == '(') {
                return depth < DEEPEST && takes('(') && condition(depth + 1, false) && takes(')');
            }
            if (!begun && !sum(depth)) {
                return false;
            }
            int sign = tape.at(at);
            if (!isComparison(sign) || !takes(sign) || !sum(depth)) {
                return false;
            }
            draft.add(Goer.SIGNS + sign);
            return true;
        }

        private boolean sum(int depth) {
            if (!term(depth)) {
                return false;
            }
            for (int i = 0; i < MOST_BYTES; i++) {
                int sign = tape.at(at);
                if (sign != '+' && sign != '-') {
                    return true;
                }
                if (!takes(sign) || !term(depth)) {
                    return false;
                }
                draft.add(Goer.SIGNS + sign);
            }
            return true;
        }

        private boolean term(int depth) {
            if (!atom(depth)) {
                return false;
            }
            for (int i = 0; i < MOST_BYTES; i++) {
                int sign = tape.at(at);
                if (sign != '*' && sign != '/') {
                    return true;
                }
                if (!takes(sign) || !atom(depth)) {
                    return false;
                }
                draft.add(Goer.SIGNS + sign);
            }
            return true;
        }

        private boolean atom(int depth) {
            int one = tape.at(at);
            if (one == '[') {
                return depth < DEEPEST && takes('[') && sum(depth + 1) && takes(']');
            }
            if (one >= '0' && one <= '9') {
                draft.add(number());
                skipBlanks();
                return true;
            }
            int letter = letterNumber(one);
            if (letter == NONE) {
                return false;
            }
            draft.add(Goer.LETTERS + letter);
            return takes(one);
        }

        /** Four digits at most: a fifth one stays, and nothing can go on with it. */
        private int number() {
            int number = 0;
            for (int i = 0; i < MOST_DIGITS; i++) {
                int one = tape.at(at);
                if (one < '0' || one > '9') {
                    break;
                }
                number = number * 10 + one - '0';
                at++;
            }
            return number;
        }

        private static int letterNumber(int one) {
            switch (one) {
                case 'u':
                    return 0;
                case 'd':
                    return 1;
                case 'w':
                    return 2;
                case 'f':
                    return 3;
                case 'm':
                    return 4;
                case 's':
                    return 5;
                case 'g':
                    return 6;
                case 't':
                    return 7;
                default:
                    return NONE;
            }
        }

        private static boolean isComparison(int one) {
            return one == '=' || one == '<' || one == '>';
        }

        /** Goes on behind this sign and the blanks behind it; false, if it is not here. */
        private boolean takes(int one) {
            if (tape.at(at) != one) {
                return false;
            }
            at++;
            skipBlanks();
            return true;
        }

        private void skipBlanks() {
            while (at < tape.size && tape.items[at] == ' ') {
                at++;
            }
        }
    }

    /** A BOOK: TOWNS with MILES between; it reads itself, and where that fails, there is the FAULT. */
    private static final class Book {
        private final Row stops = new Row(MOST_BYTES);
        private final Row told = new Row(MOST_BYTES);
        private int at;

        int stages() {
            return told.size;
        }

        int townAt(int stop) {
            return stops.at(stop);
        }

        int milesTold(int stage) {
            return told.at(stage);
        }

        boolean reads(Row tape, int towns) {
            at = 0;
            stops.cut(0);
            told.cut(0);
            skipBlanks(tape);
            if (!readsTown(tape, towns)) {
                return false;
            }
            for (int i = 0; i < MOST_BYTES && at < tape.size; i++) {
                if (!readsMiles(tape) || !readsTown(tape, towns)) {
                    return false;
                }
            }
            return told.size > 0;
        }

        private boolean readsTown(Row tape, int towns) {
            int town = tape.at(at) - 'a';
            if (town < 0 || town >= towns) {
                return false;
            }
            stops.add(town);
            at++;
            skipBlanks(tape);
            return true;
        }

        private boolean readsMiles(Row tape) {
            if (!isDigit(tape)) {
                return false;
            }
            int miles = tape.at(at) - '0';
            at++;
            if (isDigit(tape)) {
                miles = miles * 10 + tape.at(at) - '0';
                at++;
            }
            told.add(miles);
            skipBlanks(tape);
            return true;
        }

        private boolean isDigit(Row tape) {
            return tape.at(at) >= '0' && tape.at(at) <= '9';
        }

        private void skipBlanks(Row tape) {
            while (at < tape.size && tape.at(at) == ' ') {
                at++;
            }
        }
    }

    /** PAINS of all STEPS of one MANNER in one LAND, and the least sums of them. */
    private static final class Ways {
        // A sum counts PAIN in units of this and STEPS in ones, so that one comparison looks at both.
        private static final int UNIT = 128;
        // Far above any sum, so that nothing added to it goes round.
        private static final int FARTHEST = 1 << 30;
        private static final int MOST_PAIN = 10000;
        private static final int KINDS = 199 * 16;

        private final int[] beside = new int[CELLS * DIRECTIONS];
        private final int[] tolls = new int[CELLS * DIRECTIONS];
        private final int[] sumsTo = new int[CELLS];
        private final int[] sumsFrom = new int[CELLS];
        private final int[] open = new int[CELLS];
        private int openSize;
        private final int[] heights = new int[CELLS];
        private final int[] grounds = new int[CELLS];
        private final int[] letters = new int[8];
        // PAIN by kind of STEP, 0 where none is told yet: most STEPS of a LAND are of few kinds.
        private final int[] painOfKind = new int[KINDS];
        private Goer goer;
        private int load;
        private boolean wet;
        private final Row row = new Row(CELLS);
        private final Row kept = new Row(CELLS);

        Ways() {
            for (int cell = 0; cell < CELLS; cell++) {
                for (int direction = 0; direction < DIRECTIONS; direction++) {
                    beside[cell * DIRECTIONS + direction] = stepFrom(cell, direction);
                }
            }
        }

        /** Makes the tolls those of a MANNER in a LAND. */
        void fit(Goer newGoer, int newLoad, boolean newWet, Land land) {
            if (goer != newGoer || load != newLoad || wet != newWet) {
                goer = newGoer;
                load = newLoad;
                wet = newWet;
                Arrays.fill(painOfKind, 0);
            }
            for (int cell = 0; cell < CELLS; cell++) {
                heights[cell] = land.told(cell, 0);
                grounds[cell] = land.told(cell, 1) + 2 * land.told(cell, 2) + 4 * land.told(cell, 3);
            }
            for (int step = 0; step < tolls.length; step++) {
                int to = beside[step];
                if (to != NONE) {
                    int rise = heights[to] - heights[step / DIRECTIONS];
                    tolls[step] = painOf(((rise + MOST_HEIGHT) * 8 + grounds[to]) * 2 + (step & 1));
                }
            }
        }

        /** A kind tells all that PAIN looks at: how much higher, WATER, WOOD, MARSH and SLANT. */
        private int painOf(int kind) {
            if (kind < 0 || kind >= KINDS || goer == null) {
                return 1;
            }
            if (painOfKind[kind] == 0) {
                int rise = kind / 16 - MOST_HEIGHT;
                letters[0] = Math.max(rise, 0);
                letters[1] = Math.max(-rise, 0);
                letters[2] = kind >> 1 & 1;
                letters[3] = kind >> 2 & 1;
                letters[4] = kind >> 3 & 1;
                letters[5] = wet ? 1 : 0;
                letters[6] = load;
                letters[7] = kind & 1;
                painOfKind[kind] = Math.max(1, Math.min(MOST_PAIN, goer.worth(letters)));
            }
            return painOfKind[kind];
        }

        int toll(int cell, int direction) {
            int step = cell * DIRECTIONS + direction;
            return step >= 0 && step < tolls.length ? tolls[step] : 0;
        }

        /** Makes each STEP to a CELL less by so much, 1 at least. */
        void ease(int cell, int by) {
            for (int direction = 0; direction < DIRECTIONS; direction++) {
                int from = stepFrom(cell, direction ^ 4);
                if (from != NONE) {
                    int step = from * DIRECTIONS + direction;
                    tolls[step] = Math.max(1, tolls[step] - by);
                }
            }
        }

        void spreadTo(int to) {
            spread(to, true, sumsTo);
        }

        void spreadFrom(int from) {
            spread(from, false, sumsFrom);
        }

        private void spread(int start, boolean backward, int[] sums) {
            if (!isCell(start)) {
                return;
            }
            Arrays.fill(sums, FARTHEST);
            sums[start] = 0;
            open[0] = start;
            openSize = 1;
            for (int i = 0; i < CELLS && openSize > 0; i++) {
                int cell = takeLeast(sums);
                for (int direction = 0; direction < DIRECTIONS; direction++) {
                    // d and d ^ 4 are opposite: backward, the STEP leads from the other CELL to this one.
                    int other = beside[cell * DIRECTIONS + (backward ? direction ^ 4 : direction)];
                    if (other != NONE) {
                        int step = (backward ? other : cell) * DIRECTIONS + direction;
                        reach(other, sums[cell] + tolls[step] * UNIT + 1, sums);
                    }
                }
            }
        }

        private int takeLeast(int[] sums) {
            int least = 0;
            for (int i = 1; i < openSize; i++) {
                if (sums[open[i]] < sums[open[least]]) {
                    least = i;
                }
            }
            int cell = open[least];
            openSize--;
            open[least] = open[openSize];
            return cell;
        }

        private void reach(int cell, int sum, int[] sums) {
            if (sum >= sums[cell]) {
                return;
            }
            if (sums[cell] == FARTHEST && openSize < open.length) {
                open[openSize] = cell;
                openSize++;
            }
            sums[cell] = sum;
        }

        /** Lays the WAY into the row. */
        void lay(int from, int to) {
            spreadTo(to);
            follow(from, to);
        }

        /** Lays the WAY to the CELL that was spread to last. */
        void follow(int from, int to) {
            row.cut(0);
            int cell = from;
            row.add(cell);
            for (int i = 0; i < CELLS && cell != to && isCell(cell); i++) {
                cell = nextOn(cell);
                row.add(cell);
            }
        }

        /** The lowest direction is taken in which a least sum goes on. */
        private int nextOn(int cell) {
            for (int direction = 0; direction < DIRECTIONS; direction++) {
                int step = cell * DIRECTIONS + direction;
                int other = beside[step];
                if (other != NONE && sumsTo[cell] == sumsTo[other] + tolls[step] * UNIT + 1) {
                    return other;
                }
            }
            return NONE;
        }

        int least(int from) {
            return isCell(from) ? sumsTo[from] / UNIT : 0;
        }

        /** The least PAIN through a CELL, from the one spread from to the one spread to. */
        int through(int cell) {
            return isCell(cell) ? sumsFrom[cell] / UNIT + sumsTo[cell] / UNIT : FARTHEST;
        }
    }

    /** Which CELLS see one another, and the fewest hops by sight. */
    private static final class Sight {
        private final int[] hops = new int[CELLS];
        private final int[] queue = new int[CELLS];
        private final Row row = new Row(CELLS);
        private final Row traced = new Row(LONGEST_LINE);

        boolean isSeen(Land land, int one, int other) {
            int n = apart(one, other);
            int height = land.told(one, 0);
            int otherHeight = land.told(other, 0);
            for (int i = 1; i < n; i++) {
                int cell = cellBetween(one, other, i, n);
                if (land.told(cell, 0) * n > height * (n - i) + otherHeight * i) {
                    return false;
                }
            }
            return true;
        }

        /** The i-th CELL on the line: x and y to the nearest, a half to the greater number. */
        private static int cellBetween(int one, int other, int i, int n) {
            if (n < 1) {
                return one;
            }
            int x = one % WIDE + Math.floorDiv(2 * i * (other % WIDE - one % WIDE) + n, 2 * n);
            int y = one / WIDE + Math.floorDiv(2 * i * (other / WIDE - one / WIDE) + n, 2 * n);
            return y * WIDE + x;
        }

        void hopStraight(int from, int to) {
            row.cut(0);
            row.add(from);
            if (from != to) {
                row.add(to);
            }
        }

        /** Counts hops back from the end, until the start is reached; false, if it never is. */
        boolean countHops(Land land, int from, int to, int far) {
            Arrays.fill(hops, NONE);
            hops[to] = 0;
            queue[0] = to;
            int size = 1;
            for (int head = 0; head < size && hops[from] == NONE; head++) {
                int cell = queue[head];
                for (int other = 0; other < CELLS; other++) {
                    if (hops[other] == NONE && size < CELLS && isHop(land, other, cell, far)) {
                        hops[other] = hops[cell] + 1;
                        queue[size] = other;
                        size++;
                    }
                }
            }
            return hops[from] != NONE;
        }

        /** Lays the row of hops by what was counted; false, if it ends too early. */
        boolean layHops(Land land, int from, int to, int far) {
            row.cut(0);
            int cell = from;
            row.add(cell);
            for (int i = 0; i < CELLS && cell != to && cell != NONE; i++) {
                cell = nextHop(land, cell, far);
                row.add(cell);
            }
            return cell == to;
        }

        private boolean isHop(Land land, int from, int to, int far) {
            return apart(from, to) <= far && isSeen(land, from, to);
        }

        private int nextHop(Land land, int cell, int far) {
            for (int other = 0; other < CELLS; other++) {
                if (hops[other] != NONE && hops[other] == hops[cell] - 1 && isHop(land, cell, other, far)) {
                    return other;
                }
            }
            return NONE;
        }

        /** All CELLS on the lines of the hops, each end of a hop once. */
        void trace() {
            traced.cut(0);
            traced.add(row.at(0));
            for (int i = 1; i < row.size; i++) {
                int n = apart(row.at(i - 1), row.at(i));
                for (int k = 1; k <= n; k++) {
                    traced.add(cellBetween(row.at(i - 1), row.at(i), k, n));
                }
            }
        }
    }

    /** FINDS, and how they speak for a row of CELLS. */
    private static final class Finds {
        private static final int SURE = 0;
        private static final int LIKELY = 1;
        private static final int MOVED = 3;

        private final Row cells = new Row(MOST_FINDS);
        private final Row sorts = new Row(MOST_FINDS);
        private final Row weights = new Row(MOST_FINDS);

        int add(int cell, int sort, int weight) {
            if (!cells.add(cell)) {
                return NONE;
            }
            sorts.add(sort);
            weights.add(weight);
            return cells.size - 1;
        }

        /** NEAR of a line that is moved by x and y. */
        int nearMoved(Row line, int x, int y, int far, int wanted) {
            int sum = 0;
            for (int i = 0; i < cells.size; i++) {
                boolean isWanted = (wanted >> sorts.at(i) & 1) == 1;
                if (isWanted && line.isNear(cells.at(i) % WIDE - x, cells.at(i) / WIDE - y, far)) {
                    sum += weights.at(i);
                }
            }
            return sum;
        }

        /** How many lines there are beside one, or how many of these are NEAR as much. */
        int besides(Row line, int far, int wanted, boolean asMuch) {
            int own = nearMoved(line, 0, 0, far, wanted);
            int many = 0;
            for (int y = -MOVED; y <= MOVED; y++) {
                for (int x = -MOVED; x <= MOVED; x++) {
                    if (x == 0 && y == 0 || !line.fitsMoved(x, y)) {
                        continue;
                    }
                    if (!asMuch || nearMoved(line, x, y, far, wanted) >= own) {
                        many++;
                    }
                }
            }
            return many;
        }

        /** What EVIDENCE has of a WAY for each weight of its GOER. */
        int speakFor(Row way) {
            int sum = 1;
            for (int i = 0; i < cells.size; i++) {
                boolean beside = way.isNear(cells.at(i) % WIDE, cells.at(i) / WIDE, 1);
                if (sorts.at(i) == SURE && !beside) {
                    return 0;
                }
                if (sorts.at(i) == LIKELY && beside) {
                    sum += weights.at(i);
                }
            }
            return sum;
        }
    }

    /** PITS, and which of them part the WORLDS most. */
    private static final class Pits {
        private final Row cells = new Row(MOST_PITS);
        private final Row shown = new Row(MOST_GOERS);
        private final Row evidences = new Row(MOST_GOERS);

        void forgetWorlds() {
            shown.cut(0);
            evidences.cut(0);
        }

        void addWorld(int evidence, Row way) {
            int bits = 0;
            for (int p = 0; p < cells.size; p++) {
                if (way.has(cells.at(p))) {
                    bits |= 1 << p;
                }
            }
            shown.add(bits);
            evidences.add(evidence);
        }

        int bestSet(int many) {
            int best = 0;
            int least = parted(0);
            for (int set = 1; set < 1 << cells.size; set++) {
                if (Integer.bitCount(set) > many) {
                    continue;
                }
                int parted = parted(set);
                if (parted < least || parted == least && goesAhead(set, best)) {
                    best = set;
                    least = parted;
                }
            }
            return best;
        }

        /** The fewer, then the one that has the lowest PIT of those in one alone. */
        private static boolean goesAhead(int set, int other) {
            int fewer = Integer.bitCount(set) - Integer.bitCount(other);
            int unlike = set ^ other;
            return fewer < 0 || fewer == 0 && (set & unlike & -unlike) != 0;
        }

        private int parted(int set) {
            int sum = 0;
            for (int w = 0; w < shown.size; w++) {
                if (isFirstToShow(w, set)) {
                    int alike = evidenceAlike(w, set);
                    sum += alike * alike;
                }
            }
            return sum;
        }

        private boolean isFirstToShow(int world, int set) {
            for (int w = 0; w < world; w++) {
                if (showAlike(w, world, set)) {
                    return false;
                }
            }
            return true;
        }

        private int evidenceAlike(int world, int set) {
            int sum = 0;
            for (int w = 0; w < shown.size; w++) {
                if (showAlike(w, world, set)) {
                    sum += evidences.at(w);
                }
            }
            return sum;
        }

        private boolean showAlike(int one, int other, int set) {
            return (shown.at(one) & set) == (shown.at(other) & set);
        }
    }

    /** The latest FEET: how often each CELL is TRODDEN. */
    private static final class Feet {
        private final int[] trod = new int[CELLS];
        private long chance;
        private int fresh;
        private int settled;
        private boolean walked;

        void begin(long seed) {
            Arrays.fill(trod, 0);
            chance = seed;
            fresh = 0;
            settled = 0;
            walked = true;
        }

        void goOnce(Ways ways, Row towns, int trip, int ease) {
            int from = oneOf(towns.size);
            int to = oneOf(towns.size - 1);
            if (to >= from) {
                to++;
            }
            ways.lay(towns.at(from), towns.at(to));
            if (tread(ways, ease)) {
                fresh++;
                settled = trip;
            }
        }

        private int oneOf(int many) {
            chance = chance * 6364136223846793005L + 1442695040888963407L;
            return many < 1 ? 0 : (int) ((chance >>> 33) % many);
        }

        /** Treads the WAY that is laid; whether some CELL is new. */
        private boolean tread(Ways ways, int ease) {
            boolean isNew = false;
            for (int i = 0; i < ways.row.size; i++) {
                int cell = ways.row.at(i);
                if (!isCell(cell) || trod[cell] >= MOST_TROD) {
                    continue;
                }
                isNew = isNew || trod[cell] == 0;
                trod[cell]++;
                ways.ease(cell, ease);
            }
            return isNew;
        }

        int troddenCells(int often) {
            int many = 0;
            for (int cell = 0; cell < CELLS; cell++) {
                if (trod[cell] >= often) {
                    many++;
                }
            }
            return many;
        }
    }

    /** What roads between TOWNS cost, and the NETS with the least cost. */
    private static final class Net {
        // Far above the PAINS of any WAY.
        private static final int TOO_MUCH = 1 << 30;

        private final int[][] costs = new int[MOST_TOWNS][MOST_TOWNS];
        private int towns;

        void begin(int many) {
            towns = Math.max(0, Math.min(many, MOST_TOWNS));
        }

        void put(int a, int b, int cost) {
            if (a >= 0 && a < towns && b >= 0 && b < towns) {
                costs[a][b] = cost;
                costs[b][a] = cost;
            }
        }

        int cost() {
            int joined = 1;
            int sum = 0;
            for (int i = 1; i < towns; i++) {
                int best = NONE;
                int least = TOO_MUCH;
                for (int b = 0; b < towns; b++) {
                    int cost = (joined >> b & 1) == 1 ? TOO_MUCH : costTo(b, joined);
                    if (cost < least) {
                        best = b;
                        least = cost;
                    }
                }
                if (best != NONE) {
                    joined |= 1 << best;
                    sum += least;
                }
            }
            return sum;
        }

        private int costTo(int b, int joined) {
            int least = TOO_MUCH;
            for (int a = 0; a < towns; a++) {
                if ((joined >> a & 1) == 1) {
                    least = Math.min(least, costs[a][b]);
                }
            }
            return least;
        }

        /** A road is in all NETS, if no others as cheap join its ends; in some, if no cheaper ones do. */
        int needed(boolean inAll) {
            int bits = 0;
            int road = 0;
            for (int a = 0; a < towns; a++) {
                for (int b = a + 1; b < towns; b++) {
                    int below = inAll ? costs[a][b] + 1 : costs[a][b];
                    if ((reached(a, b, below) >> b & 1) == 0) {
                        bits |= 1 << road;
                    }
                    road++;
                }
            }
            return bits;
        }

        /** TOWNS reached from a by roads that cost less, without the road a b itself. */
        private int reached(int a, int b, int below) {
            int bits = 1 << a;
            for (int i = 1; i < towns; i++) {
                for (int one = 0; one < towns; one++) {
                    for (int other = 0; other < towns; other++) {
                        boolean isItself = one == a && other == b || one == b && other == a;
                        if ((bits >> one & 1) == 1 && !isItself && costs[one][other] < below) {
                            bits |= 1 << other;
                        }
                    }
                }
            }
            return bits;
        }
    }
}
