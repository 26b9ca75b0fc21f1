import java.math.BigInteger;
import java.util.ArrayList;
import java.util.Arrays;
import java.util.Collections;
import java.util.HashMap;
import java.util.HashSet;
import java.util.List;
import java.util.Map;
import java.util.NoSuchElementException;
import java.util.Set;
import java.util.TreeSet;
import java.util.regex.Matcher;
import java.util.regex.Pattern;

/** The document a second time, slow and by other means, to hold the program against. */
final class PlainRoads {
    static final String[] STEPS = {"0 -1", "1 -1", "1 0", "1 1", "0 1", "-1 1", "-1 0", "-1 -1"};
    static final Map<String, Integer> FAULTS = new HashMap<>();

    int[][] now = new int[4][120];
    final List<int[][]> eras = new ArrayList<>();
    final List<Integer> towns = new ArrayList<>();
    String tape = "";
    final List<String> goers = new ArrayList<>();
    final List<Integer> weights = new ArrayList<>();
    final List<List<int[]>> books = new ArrayList<>();
    final List<List<Integer>> lines = new ArrayList<>();
    final List<int[]> finds = new ArrayList<>();
    final List<Integer> roads = new ArrayList<>();
    final List<Integer> pits = new ArrayList<>();
    final List<int[]> fields = new ArrayList<>();
    int[] trod = new int[120];
    final List<Integer> newTrips = new ArrayList<>();
    boolean walked;
    private final Map<String, Integer> painsTold = new HashMap<>();

    /** A row of STEPS to some goal. */
    private static final class Path {
        final long pain;
        final String directions;

        Path(long pain, String directions) {
            this.pain = pain;
            this.directions = directions;
        }

        boolean beats(long otherPain, int otherDirection, Path rest) {
            if (pain != otherPain) {
                return pain < otherPain;
            }
            int otherSteps = rest.directions.length() + 1;
            if (directions.length() != otherSteps) {
                return directions.length() < otherSteps;
            }
            return directions.compareTo(otherDirection + rest.directions) <= 0;
        }
    }

    static int step(int cell, int direction) {
        if (cell < 0 || cell > 119 || direction < 0 || direction > 7) {
            return -1;
        }
        String[] by = STEPS[direction].split(" ");
        int x = cell % 12 + Integer.parseInt(by[0]);
        int y = cell / 12 + Integer.parseInt(by[1]);
        return x < 0 || x > 11 || y < 0 || y > 9 ? -1 : y * 12 + x;
    }

    private static final int[][] BESIDE = new int[120][8];

    static {
        for (int c = 0; c < 120; c++) {
            for (int d = 0; d < 8; d++) {
                BESIDE[c][d] = step(c, d);
            }
        }
    }

    private static boolean cell(int c) {
        return c >= 0 && c < 120;
    }

    private static int far(int a, int b) {
        return Math.max(Math.abs(a % 12 - b % 12), Math.abs(a / 12 - b / 12));
    }

    // ---- the land

    boolean draw(int x, int y, int x2, int y2, int what, int v) {
        if (x < 0 || y < 0 || x2 < x || y2 < y || x2 > 11 || y2 > 9 || what < 0 || what > 3 || v < 0 || v > 99) {
            return false;
        }
        if (what > 0 && v > 1) {
            return false;
        }
        for (int c = 0; c < 120; c++) {
            if (c % 12 >= x && c % 12 <= x2 && c / 12 >= y && c / 12 <= y2) {
                now[what][c] = v;
            }
        }
        return true;
    }

    int drawn(int cell, int what) {
        return cell(cell) && what >= 0 && what <= 3 ? now[what][cell] : -1;
    }

    int town(int cell) {
        if (!cell(cell) || towns.contains(cell) || towns.size() == 8) {
            return -1;
        }
        towns.add(cell);
        return towns.size() - 1;
    }

    // ---- texts

    int feed(int a, int b, int c, int d, int e) {
        StringBuilder more = new StringBuilder(tape);
        for (int n : new int[] {a, b, c, d, e}) {
            for (byte one : BigInteger.valueOf(n & 0xffffffffL).add(BigInteger.ONE.shiftLeft(40)).toByteArray()) {
                more.append((char) (one & 255));
            }
            int start = more.length() - 6;
            String four = more.substring(start + 2).replace("\0", "");
            more.setLength(start);
            more.append(four);
        }
        if (more.length() > 120) {
            return -1;
        }
        tape = more.toString();
        return tape.length();
    }

    boolean end(int n) {
        if (n < 0 || n > tape.length()) {
            return false;
        }
        tape = tape.substring(0, n);
        return true;
    }

    int fault(int sort) {
        if (sort == 0) {
            return FAULTS.computeIfAbsent(tape, PlainGrammar::fault);
        }
        return sort == 1 ? bookFault() : -2;
    }

    private int bookFault() {
        if (towns.isEmpty()) {
            // A letter of none: nothing but blanks can stand.
            int blanks = 0;
            while (blanks < tape.length() && tape.charAt(blanks) == ' ') {
                blanks++;
            }
            return blanks;
        }
        String letter = "[a-" + (char) ('a' + towns.size() - 1) + "] *";
        Pattern book = Pattern.compile(" *" + letter + "(?:[0-9]{1,2} *" + letter + ")+", Pattern.DOTALL);
        Matcher whole = book.matcher(tape);
        if (whole.matches()) {
            return -1;
        }
        for (int i = 1; i <= tape.length(); i++) {
            Matcher m = book.matcher(tape.substring(0, i));
            if (!m.matches() && !m.hitEnd()) {
                return i - 1;
            }
        }
        return tape.length();
    }

    int text(int sort) {
        if (sort < 0 || sort > 1 || fault(sort) != -1) {
            return -1;
        }
        if (sort == 0) {
            if (goers.size() == 6) {
                return -1;
            }
            goers.add(tape.replace(" ", ""));
            weights.add(1);
            tape = "";
            return goers.size() - 1;
        }
        if (books.size() == 4) {
            return -1;
        }
        List<int[]> stages = new ArrayList<>();
        Matcher m = Pattern.compile("([a-h])(?=([0-9]+)([a-h]))").matcher(tape.replace(" ", ""));
        while (m.find()) {
            stages.add(new int[] {m.group(1).charAt(0) - 'a', m.group(3).charAt(0) - 'a', Integer.parseInt(m.group(2))});
        }
        books.add(stages);
        tape = "";
        return books.size() - 1;
    }

    // ---- pains and ways

    private boolean manner(int goer, int load) {
        return goer >= 0 && goer < goers.size() && load >= 0 && load <= 99;
    }

    private int painOf(int[][] land, int goer, int load, boolean wet, int from, int direction) {
        int to = BESIDE[from][direction];
        int rise = land[0][to] - land[0][from];
        int key = ((rise + 99) * 16 + land[1][to] * 8 + land[2][to] * 4 + land[3][to] * 2 + direction % 2) * 1200
            + goer * 200 + load * 2 + (wet ? 1 : 0);
        return painsTold.computeIfAbsent(Integer.toString(key), k -> {
            Map<Character, Long> values = new HashMap<>();
            values.put('u', (long) Math.max(rise, 0));
            values.put('d', (long) Math.max(-rise, 0));
            values.put('w', (long) land[1][to]);
            values.put('f', (long) land[2][to]);
            values.put('m', (long) land[3][to]);
            values.put('s', wet ? 1L : 0L);
            values.put('g', (long) load);
            values.put('t', (long) (direction % 2));
            long worth = PlainGrammar.worth(goers.get(goer), values);
            return (int) (worth < 1 ? 1 : worth > 10000 ? 10000 : worth);
        });
    }

    private long[] tolls(int[][] land, int goer, int load, boolean wet, int[] trodden, int ease) {
        long[] tolls = new long[960];
        for (int c = 0; c < 120; c++) {
            for (int d = 0; d < 8; d++) {
                if (BESIDE[c][d] >= 0) {
                    long pain = painOf(land, goer, load, wet, c, d) - (long) ease * trodden[BESIDE[c][d]];
                    tolls[c * 8 + d] = pain < 1 ? 1 : pain;
                }
            }
        }
        return tolls;
    }

    private Path[] toward(long[] tolls, int to) {
        Path[] best = new Path[120];
        best[to] = new Path(0, "");
        boolean better = true;
        while (better) {
            better = false;
            for (int c = 0; c < 120; c++) {
                for (int d = 0; d < 8 && c != to; d++) {
                    Path rest = BESIDE[c][d] < 0 ? null : best[BESIDE[c][d]];
                    if (rest == null) {
                        continue;
                    }
                    long pain = rest.pain + tolls[c * 8 + d];
                    if (best[c] == null || !best[c].beats(pain, d, rest)) {
                        best[c] = new Path(pain, d + rest.directions);
                        better = true;
                    }
                }
            }
        }
        return best;
    }

    private List<Integer> cellsOf(Path path, int from) {
        List<Integer> cells = new ArrayList<>();
        cells.add(from);
        int c = from;
        for (char d : path.directions.toCharArray()) {
            c = BESIDE[c][d - '0'];
            cells.add(c);
        }
        return cells;
    }

    private long pains(int[][] land, int goer, int load, boolean wet, int from, int to) {
        return toward(tolls(land, goer, load, wet, new int[120], 0), to)[from].pain;
    }

    private List<Integer> way(int[][] land, int goer, int load, boolean wet, int from, int to) {
        return cellsOf(toward(tolls(land, goer, load, wet, new int[120], 0), to)[from], from);
    }

    int pain(int goer, int load, boolean wet, int cell, int direction) {
        if (!manner(goer, load) || step(cell, direction) < 0) {
            throw new NoSuchElementException();
        }
        return painOf(now, goer, load, wet, cell, direction);
    }

    private boolean trip(int goer, int load, int from, int to) {
        return manner(goer, load) && cell(from) && cell(to);
    }

    int pains(int goer, int load, boolean wet, int from, int to) {
        return trip(goer, load, from, to) ? (int) pains(now, goer, load, wet, from, to) : -1;
    }

    private static int pick(List<Integer> row, int i) {
        return i >= 0 && i < row.size() ? row.get(i) : -1;
    }

    int way(int goer, int load, boolean wet, int from, int to, int i) {
        if (!trip(goer, load, from, to)) {
            return -1;
        }
        List<Integer> way = way(now, goer, load, wet, from, to);
        return i == -1 ? way.size() - 1 : pick(way, i);
    }

    int nearly(int goer, int load, boolean wet, int from, int to, int hundredths, int cell) {
        if (!trip(goer, load, from, to) || hundredths < 0 || hundredths > 100 || cell != -1 && !cell(cell)) {
            return -1;
        }
        long[] tolls = tolls(now, goer, load, wet, new int[120], 0);
        Path[] back = toward(tolls, to);
        long[] there = new long[120];
        Arrays.fill(there, 1L << 40);
        there[from] = 0;
        for (int round = 0; round < 120; round++) {
            for (int c = 0; c < 120; c++) {
                for (int d = 0; d < 8; d++) {
                    if (BESIDE[c][d] >= 0) {
                        int other = BESIDE[c][d];
                        there[other] = Math.min(there[other], there[c] + tolls[c * 8 + d]);
                    }
                }
            }
        }
        long most = back[from].pain + back[from].pain * hundredths / 100;
        int many = 0;
        for (int c = 0; c < 120; c++) {
            boolean on = there[c] + back[c].pain <= most;
            if (c == cell) {
                return on ? 1 : 0;
            }
            many += on ? 1 : 0;
        }
        return many;
    }

    // ---- sights

    private static List<Integer> straight(int a, int b) {
        List<Integer> cells = new ArrayList<>();
        int n = far(a, b);
        if (n == 0) {
            return new ArrayList<>(List.of(a));
        }
        for (int i = 0; i <= n; i++) {
            long x = Math.floorDiv(2L * (a % 12 * n + i * (b % 12 - a % 12)) + n, 2L * n);
            long y = Math.floorDiv(2L * (a / 12 * n + i * (b / 12 - a / 12)) + n, 2L * n);
            cells.add((int) (y * 12 + x));
        }
        return cells;
    }

    private boolean seen(int a, int b) {
        List<Integer> line = straight(a, b);
        int n = line.size() - 1;
        for (int i = 1; i < n; i++) {
            if (now[0][line.get(i)] * n > now[0][a] * (n - i) + now[0][b] * i) {
                return false;
            }
        }
        return true;
    }

    int sees(int one, int other) {
        return !cell(one) || !cell(other) || one == other ? -1 : seen(one, other) ? 1 : 0;
    }

    /** Forward, level by level, the least row to each CELL. */
    private List<Integer> hops(int from, int to, int far) {
        Map<Integer, List<Integer>> level = new HashMap<>();
        level.put(from, List.of(from));
        Set<Integer> done = new HashSet<>(level.keySet());
        while (!level.isEmpty()) {
            if (level.containsKey(to)) {
                return level.get(to);
            }
            Map<Integer, List<Integer>> next = new HashMap<>();
            for (List<Integer> row : level.values()) {
                int last = row.get(row.size() - 1);
                for (int c = 0; c < 120; c++) {
                    if (!done.contains(c) && far(last, c) <= far && seen(last, c)) {
                        List<Integer> longer = new ArrayList<>(row);
                        longer.add(c);
                        if (!next.containsKey(c) || compare(longer, next.get(c)) < 0) {
                            next.put(c, longer);
                        }
                    }
                }
            }
            done.addAll(next.keySet());
            level = next;
        }
        return null;
    }

    private static int compare(List<Integer> a, List<Integer> b) {
        for (int i = 0; i < a.size(); i++) {
            if (!a.get(i).equals(b.get(i))) {
                return a.get(i) - b.get(i);
            }
        }
        return 0;
    }

    int sights(int from, int to, int far, int i) {
        if (!cell(from) || !cell(to) || far < 1 || far > 11) {
            return -1;
        }
        List<Integer> row = hops(from, to, far);
        if (row == null) {
            return -1;
        }
        return i == -1 ? row.size() - 1 : pick(row, i);
    }

    // ---- lines

    private int keep(List<Integer> line) {
        if (lines.size() == 10 || line == null) {
            return -1;
        }
        lines.add(new ArrayList<>(line));
        return lines.size() - 1;
    }

    int lineOfWay(int goer, int load, boolean wet, int from, int to) {
        return trip(goer, load, from, to) ? keep(way(now, goer, load, wet, from, to)) : -1;
    }

    int lineOfSight(int from, int to, int far) {
        if (!cell(from) || !cell(to) || far < 0 || far > 11) {
            return -1;
        }
        if (far == 0) {
            return keep(straight(from, to));
        }
        List<Integer> row = hops(from, to, far);
        List<Integer> all = new ArrayList<>();
        all.add(from);
        for (int h = 1; h < row.size(); h++) {
            for (int c : straight(row.get(h - 1), row.get(h))) {
                if (all.get(all.size() - 1) != c) {
                    all.add(c);
                }
            }
        }
        return keep(all);
    }

    int lineAt(int cell) {
        return cell(cell) ? keep(List.of(cell)) : -1;
    }

    int goOn(int direction) {
        if (lines.isEmpty()) {
            return -1;
        }
        List<Integer> latest = lines.get(lines.size() - 1);
        int next = step(latest.get(latest.size() - 1), direction);
        if (next < 0 || latest.size() >= 60) {
            return -1;
        }
        latest.add(next);
        return latest.size();
    }

    private boolean isLine(int line) {
        return line >= 0 && line < lines.size();
    }

    int line(int line, int i) {
        return !isLine(line) ? -1 : i == -1 ? lines.get(line).size() : pick(lines.get(line), i);
    }

    private static String directions(List<Integer> line) {
        StringBuilder text = new StringBuilder();
        for (int i = 1; i < line.size(); i++) {
            for (int d = 0; d < 8; d++) {
                if (BESIDE[line.get(i - 1)][d] == line.get(i)) {
                    text.append(d);
                }
            }
        }
        return text.toString();
    }

    private static int miles(List<Integer> line) {
        String steps = directions(line);
        int slant = steps.replaceAll("[0246]", "").length();
        return (10 * (steps.length() - slant) + 14 * slant) / 10;
    }

    int about(int line, int what) {
        if (!isLine(line) || what < 0 || what > 2) {
            return -1;
        }
        if (what == 0) {
            return miles(lines.get(line));
        }
        String steps = directions(lines.get(line));
        int runs = 0;
        int longest = 0;
        Matcher m = Pattern.compile("(.)\\1*").matcher(steps);
        while (m.find()) {
            runs++;
            longest = Math.max(longest, m.group().length());
        }
        return what == 1 ? Math.max(0, runs - 1) : longest;
    }

    // ---- finds

    int find(int cell, int sort, int weight) {
        if (!cell(cell) || sort < 0 || sort > 3 || weight < 1 || weight > 9 || finds.size() == 30) {
            return -1;
        }
        finds.add(new int[] {cell % 12, cell / 12, sort, weight});
        return finds.size() - 1;
    }

    private int nearOf(List<int[]> places, int far, int sorts) {
        int sum = 0;
        for (int[] f : finds) {
            boolean any = false;
            for (int[] p : places) {
                any |= Math.max(Math.abs(p[0] - f[0]), Math.abs(p[1] - f[1])) <= far;
            }
            if (any && (sorts & 1 << f[2]) != 0) {
                sum += f[3];
            }
        }
        return sum;
    }

    private List<int[]> moved(List<Integer> line, int x, int y) {
        List<int[]> places = new ArrayList<>();
        for (int c : line) {
            int[] p = {c % 12 + x, c / 12 + y};
            if (p[0] < 0 || p[0] > 11 || p[1] < 0 || p[1] > 9) {
                return null;
            }
            places.add(p);
        }
        return places;
    }

    int near(int line, int far, int sorts) {
        if (!isLine(line) || far < 0 || far > 5 || sorts < 0 || sorts > 15) {
            return -1;
        }
        return nearOf(moved(lines.get(line), 0, 0), far, sorts);
    }

    int against(int line, int far, int sorts, int what) {
        if (near(line, far, sorts) < 0 || what < 0 || what > 1) {
            return -1;
        }
        int[] many = new int[2];
        for (int x = -3; x <= 3; x++) {
            for (int y = -3; y <= 3; y++) {
                List<int[]> places = moved(lines.get(line), x, y);
                if (places != null && (x != 0 || y != 0)) {
                    many[1]++;
                    many[0] += nearOf(places, far, sorts) >= near(line, far, sorts) ? 1 : 0;
                }
            }
        }
        return many[what];
    }

    // ---- known roads

    int known(int line) {
        if (!isLine(line) || roads.contains(line) || roads.size() == 6) {
            return -1;
        }
        roads.add(line);
        return roads.size();
    }

    int miss(int goer, int load, boolean wet, int i) {
        if (!manner(goer, load) || i < 0 || i >= roads.size()) {
            return -1;
        }
        List<Integer> road = lines.get(roads.get(i));
        Set<Integer> beside = new HashSet<>(road);
        for (int c : road) {
            for (int d = 0; d < 8; d++) {
                beside.add(BESIDE[c][d]);
            }
        }
        List<Integer> way = way(now, goer, load, wet, road.get(0), road.get(road.size() - 1));
        way.removeAll(beside);
        return way.size();
    }

    private int[] bestWithout(int load, boolean wet, int left) {
        int[] best = null;
        for (int g = 0; g < goers.size(); g++) {
            int fit = 0;
            for (int i = 0; i < roads.size(); i++) {
                fit += i == left ? 0 : miss(g, load, wet, i);
            }
            if (best == null || fit < best[1]) {
                best = new int[] {g, fit};
            }
        }
        return best;
    }

    int best(int load, boolean wet, int what) {
        if (goers.isEmpty() || load < 0 || load > 99 || what < 0 || what > 1) {
            return -1;
        }
        return bestWithout(load, wet, -1)[what];
    }

    int tried(int load, boolean wet) {
        if (goers.isEmpty() || load < 0 || load > 99 || roads.size() < 2) {
            return -1;
        }
        int sum = 0;
        for (int i = 0; i < roads.size(); i++) {
            sum += miss(bestWithout(load, wet, i)[0], load, wet, i);
        }
        return sum;
    }

    // ---- books

    private boolean isStage(int book, int stage) {
        return book >= 0 && book < books.size() && stage >= 0 && stage < books.get(book).size();
    }

    int stage(int book, int stage, int what) {
        if (!isStage(book, stage) || what < 0 || what > 2) {
            throw new NoSuchElementException();
        }
        return books.get(book).get(stage)[what];
    }

    int miles(int goer, int from, int to) {
        return miles(way(now, goer, 0, false, from, to));
    }

    private int trueMiles(int[] stage, int goer, int load, boolean wet) {
        return miles(way(now, goer, load, wet, towns.get(stage[0]), towns.get(stage[1])));
    }

    int off(int book, int stage, int goer, int load, boolean wet) {
        if (!isStage(book, stage) || !manner(goer, load)) {
            return -100000;
        }
        int[] told = books.get(book).get(stage);
        return told[2] - trueMiles(told, goer, load, wet);
    }

    int slip(int book, int stage, int goer, int load, boolean wet, int by) {
        if (!isStage(book, stage) || !manner(goer, load) || by < 0 || by > 20) {
            return -1;
        }
        int[] told = books.get(book).get(stage);
        int real = trueMiles(told, goer, load, wet);
        if (told[2] - real <= by && real - told[2] <= by) {
            return 0;
        }
        if (real > 99) {
            return 3;
        }
        String a = String.format("%02d", told[2]);
        String b = String.format("%02d", real);
        if (a.equals(new StringBuilder(b).reverse().toString())) {
            return 1;
        }
        int unlike = (a.charAt(0) != b.charAt(0) ? 1 : 0) + (a.charAt(1) != b.charAt(1) ? 1 : 0);
        return unlike == 1 ? 2 : 3;
    }

    int holds(int book, int goer, int by) {
        if (book < 0 || book >= books.size() || !manner(goer, 0) || by < 0 || by > 20) {
            return -1;
        }
        int many = 0;
        for (int s = 0; s < books.get(book).size(); s++) {
            many += slip(book, s, goer, 0, false, by) == 0 ? 1 : 0;
        }
        return many;
    }

    // ---- worlds

    boolean weigh(int goer, int weight) {
        if (goer < 0 || goer >= goers.size() || weight < 0 || weight > 9) {
            return false;
        }
        weights.set(goer, weight);
        return true;
    }

    private boolean two(int from, int to) {
        return from != to && from >= 0 && to >= 0 && from < towns.size() && to < towns.size();
    }

    private List<Integer> world(int goer, int from, int to) {
        return way(now, goer, 0, false, towns.get(from), towns.get(to));
    }

    int evidence(int goer, int from, int to) {
        if (!manner(goer, 0) || !two(from, to)) {
            return -1;
        }
        int sum = 1;
        for (int[] f : finds) {
            boolean on = false;
            for (int c : world(goer, from, to)) {
                on |= far(c, f[1] * 12 + f[0]) <= 1;
            }
            if (f[2] == 0 && !on) {
                return 0;
            }
            sum += f[2] == 1 && on ? f[3] : 0;
        }
        return weights.get(goer) * sum;
    }

    int odds(int from, int to, int cell) {
        if (!two(from, to) || cell != -1 && !cell(cell)) {
            return -1;
        }
        int sum = 0;
        for (int g = 0; g < goers.size(); g++) {
            if (cell == -1 || world(g, from, to).contains(cell)) {
                sum += evidence(g, from, to);
            }
        }
        return sum;
    }

    int pit(int cell) {
        if (!cell(cell) || pits.size() == 6) {
            return -1;
        }
        pits.add(cell);
        return pits.size() - 1;
    }

    int dig(int from, int to, int many) {
        if (!two(from, to) || many < 0 || many > 6) {
            return -1;
        }
        List<List<Integer>> ways = new ArrayList<>();
        List<Integer> evidences = new ArrayList<>();
        for (int g = 0; g < goers.size(); g++) {
            ways.add(world(g, from, to));
            evidences.add(evidence(g, from, to));
        }
        // Sorted texts of PITS, the shorter first: the first with the least is the one.
        List<String> sets = new ArrayList<>();
        sets.add("");
        for (int i = 0; i < sets.size(); i++) {
            String set = sets.get(i);
            int next = set.isEmpty() ? 0 : set.charAt(set.length() - 1) - '0' + 1;
            for (int p = next; p < pits.size() && set.length() < many; p++) {
                sets.add(set + p);
            }
        }
        String best = null;
        long least = 0;
        for (String set : sets) {
            Map<String, Long> shown = new HashMap<>();
            for (int g = 0; g < goers.size(); g++) {
                StringBuilder what = new StringBuilder();
                for (char p : set.toCharArray()) {
                    what.append(ways.get(g).contains(pits.get(p - '0')) ? '1' : '0');
                }
                shown.merge(what.toString(), (long) evidences.get(g), Long::sum);
            }
            long parted = 0;
            for (long together : shown.values()) {
                parted += together * together;
            }
            if (best == null || parted < least) {
                best = set;
                least = parted;
            }
        }
        int bits = 0;
        for (char p : best.toCharArray()) {
            bits += 1 << (p - '0');
        }
        return bits;
    }

    // ---- fields and hedges

    int field(int x, int y, int x2, int y2) {
        if (x < 0 || y < 0 || x2 < x || y2 < y || x2 > 11 || y2 > 9 || fields.size() == 8) {
            return -1;
        }
        fields.add(new int[] {x, y, x2, y2});
        return fields.size() - 1;
    }

    int meets(int line, int field) {
        if (!isLine(line) || field < 0 || field >= fields.size()) {
            return -1;
        }
        int[] f = fields.get(field);
        StringBuilder text = new StringBuilder();
        for (int c : lines.get(line)) {
            int x = c % 12;
            int y = c / 12;
            boolean in = f[0] <= x && x <= f[2] && f[1] <= y && y <= f[3];
            boolean deep = f[0] < x && x < f[2] && f[1] < y && y < f[3];
            text.append(deep ? 'D' : in ? 'R' : '-');
        }
        return (text.indexOf("D") >= 0 ? 1 : 0) + (text.indexOf("RRR") >= 0 ? 2 : 0);
    }

    int older(int line) {
        if (!isLine(line)) {
            return -100000;
        }
        int sum = 0;
        for (int f = 0; f < fields.size(); f++) {
            sum += new int[] {0, 1, -1, 1}[meets(line, f)];
        }
        return sum;
    }

    int hedge(int line, int many, int what) {
        if (!isLine(line) || many < 2 || many > 12 || what < 0 || what > 1) {
            return -1;
        }
        int[] sums = new int[2];
        for (int c = 0; c < 120; c++) {
            for (int d = 2; d <= 5; d++) {
                Set<Integer> row = new TreeSet<>();
                int at = c;
                for (int i = 0; i < many && at >= 0; i++) {
                    row.add(at);
                    at = step(at, d);
                }
                if (row.size() == many) {
                    sums[1]++;
                    sums[0] += lines.get(line).containsAll(row) ? 1 : 0;
                }
            }
        }
        return sums[what];
    }

    // ---- the net

    int net(int goer, int load, boolean wet, int what) {
        if (!manner(goer, load) || towns.size() < 2 || what < 0 || what > 2) {
            return -1;
        }
        int n = towns.size();
        List<long[]> all = new ArrayList<>();
        for (int a = 0; a < n; a++) {
            for (int b = a + 1; b < n; b++) {
                all.add(new long[] {a, b, pains(now, goer, load, wet, towns.get(a), towns.get(b))});
            }
        }
        long[] found = {Long.MAX_VALUE, 0, 0};
        trees(all, 0, n - 1, 0, 0, found, n);
        return (int) found[what];
    }

    /** Tries every choice of n - 1 roads. */
    private void trees(List<long[]> all, int next, int left, int bits, long cost, long[] found, int n) {
        if (cost > found[0]) {
            return;
        }
        if (left == 0) {
            if (joins(all, bits, n)) {
                if (cost < found[0]) {
                    found[0] = cost;
                    found[1] = bits;
                    found[2] = bits;
                }
                found[1] &= bits;
                found[2] |= bits;
            }
            return;
        }
        if (all.size() - next < left) {
            return;
        }
        trees(all, next + 1, left - 1, bits | 1 << next, cost + all.get(next)[2], found, n);
        trees(all, next + 1, left, bits, cost, found, n);
    }

    private static boolean joins(List<long[]> all, int bits, int n) {
        List<Integer> group = new ArrayList<>();
        for (int i = 0; i < n; i++) {
            group.add(i);
        }
        for (int r = 0; r < all.size(); r++) {
            if ((bits & 1 << r) != 0) {
                Integer one = group.get((int) all.get(r)[0]);
                Integer other = group.get((int) all.get(r)[1]);
                Collections.replaceAll(group, other, one);
            }
        }
        return new HashSet<>(group).size() == 1;
    }

    // ---- feet

    int feet(int goer, int load, boolean wet, long seed, int trips, int ease) {
        if (!manner(goer, load) || towns.size() < 2 || trips < 1 || trips > 40 || ease < 0 || ease > 9) {
            return -1;
        }
        trod = new int[120];
        newTrips.clear();
        walked = true;
        BigInteger x = BigInteger.valueOf(seed);
        for (int t = 1; t <= trips; t++) {
            x = next(x);
            int from = towns.get(drawOf(x, towns.size()));
            List<Integer> others = new ArrayList<>(towns);
            others.remove((Integer) from);
            x = next(x);
            int to = others.get(drawOf(x, others.size()));
            boolean isNew = false;
            for (int c : cellsOf(toward(tolls(now, goer, load, wet, trod.clone(), ease), to)[from], from)) {
                isNew |= trod[c] == 0;
                trod[c] = Math.min(99, trod[c] + 1);
            }
            if (isNew) {
                newTrips.add(t);
            }
        }
        return worn(1);
    }

    private static BigInteger next(BigInteger x) {
        return x.multiply(new BigInteger("6364136223846793005")).add(new BigInteger("1442695040888963407"))
            .mod(BigInteger.ONE.shiftLeft(64));
    }

    private static int drawOf(BigInteger x, int k) {
        return x.shiftRight(33).mod(BigInteger.valueOf(k)).intValue();
    }

    int trodden(int cell) {
        return cell(cell) ? trod[cell] : -1;
    }

    int trips(int what) {
        if (!walked || what < 0 || what > 1) {
            return -1;
        }
        return what == 0 ? newTrips.size() : newTrips.isEmpty() ? 0 : newTrips.get(newTrips.size() - 1);
    }

    int worn(int often) {
        return often < 1 || often > 99 ? -1 : (int) Arrays.stream(trod).filter(t -> t >= often).count();
    }

    int alike(int line, int often) {
        if (!isLine(line) || often < 1 || often > 99) {
            return -1;
        }
        return (int) new HashSet<>(lines.get(line)).stream().filter(c -> trod[c] >= often).count();
    }

    // ---- eras

    private static int[][] copy(int[][] land) {
        int[][] copy = new int[4][];
        for (int i = 0; i < 4; i++) {
            copy[i] = land[i].clone();
        }
        return copy;
    }

    int era() {
        if (eras.size() == 4) {
            return -1;
        }
        eras.add(copy(now));
        return eras.size() - 1;
    }

    int changed(int era) {
        if (era < 0 || era >= eras.size()) {
            return -1;
        }
        int many = 0;
        for (int c = 0; c < 120; c++) {
            boolean unlike = false;
            for (int w = 0; w < 4; w++) {
                unlike |= now[w][c] != eras.get(era)[w][c];
            }
            many += unlike ? 1 : 0;
        }
        return many;
    }

    int bring(int era) {
        int many = changed(era);
        if (many >= 0) {
            now = copy(eras.get(era));
        }
        return many;
    }

    int then(int era, int goer, int load, boolean wet, int from, int to, int i) {
        if (era < 0 || era >= eras.size() || !trip(goer, load, from, to)) {
            return -1;
        }
        if (i == -1) {
            return (int) pains(eras.get(era), goer, load, wet, from, to);
        }
        return pick(way(eras.get(era), goer, load, wet, from, to), i);
    }

    int lasting(int goer, int load, boolean wet, int from, int to) {
        if (!trip(goer, load, from, to)) {
            return -1;
        }
        List<Integer> left = way(now, goer, load, wet, from, to);
        for (int[][] land : eras) {
            left.retainAll(way(land, goer, load, wet, from, to));
        }
        return eras.isEmpty() ? 0 : left.size();
    }

    int count(int what) {
        int[] all = {towns.size(), goers.size(), books.size(), lines.size(), finds.size(), roads.size(), pits.size(),
            fields.size(), tape.length(), eras.size()};
        return what >= 0 && what < all.length ? all[what] : -1;
    }
}
