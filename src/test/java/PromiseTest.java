import java.math.BigInteger;
import java.util.NoSuchElementException;

/** Each promise by itself: ordinary inputs, the edges that the document names, and wrong inputs. */
public final class PromiseTest {
    private static final int NONE = -1;
    private static final int HIDDEN = -100000;
    private static final String PLAIN = "y:10+4*t";
    private static final String DRY = "y:10+4*t+9000*m";
    private static final Checks CHECKS = new Checks("PromiseTest");
    private static int promise;

    public static void main(String[] args) {
        newObject();
        drawAndDrawn();
        town();
        feedAndEnd();
        faultOfGoer();
        faultOfBook();
        text();
        painOfLetters();
        painOfTexts();
        painRefused();
        pains();
        way();
        nearly();
        sees();
        sights();
        lineOfWay();
        lineOfSight();
        linesByHand();
        about();
        finds();
        against();
        known();
        books();
        slip();
        slipAboveNinetyNine();
        worlds();
        dig();
        fields();
        hedge();
        net();
        feet();
        feetEase();
        eras();
        lasting();
        count();
        CHECKS.end();
    }

    // ---- help

    private static void due(String what, long want, long got) {
        CHECKS.due("promise " + promise + ": " + what, want, got);
    }

    private static void yes(String what, boolean holds) {
        CHECKS.yes("promise " + promise + ": " + what, holds);
    }

    private static void feed(OldRoads x, String text) {
        x.end(0);
        for (int i = 0; i < text.length(); i += 20) {
            int[] five = new int[5];
            for (int k = 0; k < 20; k++) {
                five[k / 4] = five[k / 4] << 8 | (i + k < text.length() ? text.charAt(i + k) : 0);
            }
            x.feed(five[0], five[1], five[2], five[3], five[4]);
        }
        due("fed \"" + text + "\"", text.length(), x.count(8));
    }

    private static int tell(OldRoads x, int sort, String text) {
        feed(x, text);
        return x.text(sort);
    }

    private static OldRoads with(String... goers) {
        OldRoads x = new OldRoads();
        for (int i = 0; i < goers.length; i++) {
            due("text \"" + goers[i] + "\"", i, tell(x, 0, goers[i]));
        }
        return x;
    }

    private static int cell(int x, int y) {
        return 12 * y + x;
    }

    private static boolean painThrows(OldRoads x, int goer, int load, int cell, int direction) {
        try {
            x.pain(goer, load, false, cell, direction);
            return false;
        } catch (NoSuchElementException e) {
            return e.getClass() == NoSuchElementException.class;
        }
    }

    private static boolean stageThrows(OldRoads x, int book, int stage, int what) {
        try {
            x.stage(book, stage, what);
            return false;
        } catch (NoSuchElementException e) {
            return e.getClass() == NoSuchElementException.class;
        }
    }

    /** A LINE by hand through these directions. */
    private static int hand(OldRoads x, int cell, String directions) {
        int line = x.lineAt(cell);
        for (int i = 0; i < directions.length(); i++) {
            due("goOn " + directions.charAt(i), i + 2, x.goOn(directions.charAt(i) - '0'));
        }
        return line;
    }

    // ---- the land and the tape

    private static void newObject() {
        promise = 1;
        OldRoads x = new OldRoads();
        for (int cell = 0; cell < 120; cell++) {
            for (int what = 0; what < 4; what++) {
                due("drawn(" + cell + ", " + what + ")", 0, x.drawn(cell, what));
            }
            due("trodden(" + cell + ")", 0, x.trodden(cell));
        }
        for (int what = 0; what < 10; what++) {
            due("count(" + what + ")", 0, x.count(what));
        }
        due("pains", NONE, x.pains(0, 0, false, 0, 1));
        due("best", NONE, x.best(0, false, 0));
        due("sees", 1, x.sees(0, 119));
        due("bring", NONE, x.bring(0));
    }

    private static void drawAndDrawn() {
        promise = 2;
        OldRoads x = new OldRoads();
        yes("heights", x.draw(2, 3, 4, 5, 0, 99));
        int sum = 0;
        for (int cell = 0; cell < 120; cell++) {
            sum += x.drawn(cell, 0);
        }
        due("nine CELLS", 9 * 99, sum);
        due("first", 99, x.drawn(cell(2, 3), 0));
        due("last", 99, x.drawn(cell(4, 5), 0));
        due("beside", 0, x.drawn(cell(5, 5), 0));
        for (int what = 1; what < 4; what++) {
            yes("layer " + what, x.draw(0, 0, 11, 9, what, 1));
            due("all", 1, x.drawn(119, what));
            yes("layer " + what + " 2", !x.draw(0, 0, 11, 9, what, 2));
            yes("layer " + what + " less", !x.draw(0, 0, 11, 9, what, -1));
            due("as before", 1, x.drawn(119, what));
            yes("none again", x.draw(11, 9, 11, 9, what, 0));
            due("none", 0, x.drawn(119, what));
            due("one", 1, x.drawn(118, what));
        }
        due("heights stay", 99, x.drawn(cell(3, 4), 0));
        int[][] wrong = {{-1, 0, 0, 0, 0, 5}, {0, -1, 0, 0, 0, 5}, {0, 0, 12, 0, 0, 5}, {0, 0, 0, 10, 0, 5},
            {4, 0, 3, 0, 0, 5}, {0, 4, 0, 3, 0, 5}, {0, 0, 0, 0, -1, 1}, {0, 0, 0, 0, 4, 1}, {0, 0, 0, 0, 0, 100},
            {0, 0, 0, 0, 0, -1}, {12, 0, 12, 0, 0, 5}, {0, 10, 0, 10, 0, 5},
            {Integer.MIN_VALUE, 0, Integer.MAX_VALUE, 0, 0, 5}};
        for (int[] w : wrong) {
            yes("refused " + w[0] + " " + w[1] + " " + w[2] + " " + w[3] + " " + w[4] + " " + w[5],
                !x.draw(w[0], w[1], w[2], w[3], w[4], w[5]));
        }
        due("nothing changed", 0, x.drawn(0, 0));
        yes("height 99 is one", x.draw(11, 9, 11, 9, 0, 99));
        promise = 3;
        due("drawn", 99, x.drawn(119, 0));
        due("cell -1", NONE, x.drawn(-1, 0));
        due("cell 120", NONE, x.drawn(120, 0));
        due("what -1", NONE, x.drawn(0, -1));
        due("what 4", NONE, x.drawn(0, 4));
    }

    private static void town() {
        promise = 4;
        OldRoads x = new OldRoads();
        due("cell 120", NONE, x.town(120));
        due("cell -1", NONE, x.town(-1));
        for (int i = 0; i < 8; i++) {
            due("town", i, x.town(119 - i * 7));
            due("twice", NONE, x.town(119 - i * 7));
            due("how many", i + 1, x.count(0));
        }
        due("a ninth", NONE, x.town(0));
        due("eight", 8, x.count(0));
    }

    private static void feedAndEnd() {
        promise = 5;
        OldRoads x = new OldRoads();
        due("bytes of 0 are left out", 3, x.feed(0x79003a00, 0, 0x00000031, 0, 0));
        due("the highest first", NONE, x.fault(0));
        due("all 255", 23, x.feed(-1, -1, -1, -1, -1));
        due("a byte of 255", 3, x.fault(0));
        for (int have = 43; have <= 103; have += 20) {
            due("twenty more", have, x.feed(-1, -1, -1, -1, -1));
        }
        due("more than 120", NONE, x.feed(-1, -1, -1, -1, 0x01010000));
        due("as before", 103, x.count(8));
        due("17 more", 120, x.feed(-1, -1, -1, -1, 0x01000000));
        due("one more", NONE, x.feed(0, 0, 0, 0, 1));
        due("none more", 120, x.feed(0, 0, 0, 0, 0));
        promise = 6;
        yes("less than none", !x.end(-1));
        yes("more than there are", !x.end(121));
        due("as before", 120, x.count(8));
        yes("all", x.end(120));
        yes("the first three", x.end(3));
        due("three", 3, x.count(8));
        due("the first ones stay", NONE, x.fault(0));
        yes("four", !x.end(4));
        yes("none", x.end(0));
        yes("none of none", x.end(0));
        due("empty", 0, x.count(8));
    }

    // ---- texts

    private static void faultOfGoer() {
        promise = 7;
        OldRoads x = new OldRoads();
        due("empty", 0, x.fault(0));
        due("no sort 2", -2, x.fault(2));
        due("no sort -1", -2, x.fault(-1));
        String[] good = {"y:1", "y:1234", "y:0000", " y : 1 ", "y:u;y:d;y:w;y:f;y:m;y:s;y:g;y:t", "y:[1]", "y:[[[[[[1]]]]]]",
            "y:u>1?2", "y:u + 1 * 2 / 3 - 4", "y:!u=1?2", "y:!!!!!!u=1?2", "y:((((((u=1))))))?2", "y:(u=1)&(d=1)|w<2?2",
            "y:u=1|d=1&w=1|f=1?2", "y:!(u=1|d=1)?2", "y:[u]=[d]?2", "y:u=1?2;y:3", "y:u+1>2*d?[w]", "y:!([[[[u]]]]=1)?2",
            "y:!!!(![u]=1)?2", "y:!u=1&!!!!!!d=1?2", "y:u=1?[[[[[[1]]]]]]", "y:((((([u]=1)))))?2", "y:u=[[[[[[1]]]]]]?2"};
        for (String text : good) {
            feed(x, text);
            due(text, NONE, x.fault(0));
        }
        // The sign behind ^ is the FAULT; ^ at the end: the text ends too early.
        String[] bad = {"^", " ^", "^x:1", "y^", "y^1", "y:^", "y:^y", "y:^;", "y:1^y", "y:1;^", "y:1;^;", "y:1234^5", "y:1 ^2",
            "y:1^u", "y:u^d", "y:1+^", "y:1+^+", "y:^-1", "y:^+1", "y:[^]", "y:[1^", "y:[1^)", "y:[1^=1]", "y:1^]", "y:1^)",
            "y:1^?2", "y:u=^", "y:u=1^", "y:u=1^;", "y:u=1^=1", "y:u=^=1", "y:u=1?^", "y:u=1?2^?3", "y:u=1?2^=3", "y:u=1?^!",
            "y:u=1?^(u", "y:(u^)?2", "y:(^", "y:(u=1^?2", "y:(u=1)^=2", "y:(u=1)^+2", "y:(u=1)^;", "y:!^", "y:!u^?1", "y:!u=1^",
            "y:!u=1^;", "y:!^;", "y:u=1&^", "y:u=1&^?", "y:u=1|^|", "y:u=1&^&", "y:u^!=1?2", "y:!!!!!!^!u=1?1", "y:((((((^(u",
            "y:[[[[[[^[1", "y:u=1?[[[[[[^[1", "y:((((([^[u", "y:u=[[[[[[^[1", "y:!([^!", "y:!!!(((^[u]=1", "y:!!!(((u=^[1", "y:[[[[[[1]+2]+[[^",
            "y:1^.0", "y:^\t1", "^Y:1", "y:^U", "y:1^\377", "y:12^y:1", "y:u^&1",
            "y:u=1 &  ^?", "y:[u+1]*^/", "y:1;y^;", "y:1;y:^;"};
        for (String marked : bad) {
            int fault = marked.indexOf('^');
            String text = marked.substring(0, fault) + marked.substring(fault + 1);
            feed(x, text);
            due("goer " + marked, fault, x.fault(0));
        }
        due("the TAPE stays", 7, x.count(8));
        StringBuilder longest = new StringBuilder("y:1");
        while (longest.length() < 119) {
            longest.append("+u");
        }
        feed(x, longest + "+");
        due("120 bytes and more to come", 120, x.fault(0));
        yes("119", x.end(119));
        due("119 bytes", NONE, x.fault(0));
    }

    private static void faultOfBook() {
        promise = 7;
        OldRoads x = new OldRoads();
        due("empty", 0, x.fault(1));
        feed(x, "a1b");
        due("no TOWNS yet", 0, x.fault(1));
        x.town(7);
        feed(x, "a1b");
        due("one TOWN", 2, x.fault(1));
        feed(x, "a1a");
        due("one TOWN twice", NONE, x.fault(1));
        x.town(8);
        x.town(9);
        String[] good = {"a1b", "a0b", "a00b", "a99c", "a 5 b 6 c", " a5b ", "a5a5a5a", "c 12b"};
        for (String text : good) {
            feed(x, text);
            due(text, NONE, x.fault(1));
        }
        String[] bad = {"^", " ^", "^d1a", "^1", "a^", "a ^", "a^b", "a5^", "a5 ^", "a5^d", "a12^3b", "a1 ^2b", "a1b^c", "a1b2^",
            "a1b 2 ^;", "a^-1b", "^`1a", "a1^`", "a1^B", "^A1b", "a1b23^4c"};
        for (String marked : bad) {
            int fault = marked.indexOf('^');
            feed(x, marked.substring(0, fault) + marked.substring(fault + 1));
            due("book " + marked, fault, x.fault(1));
        }
    }

    private static void text() {
        promise = 8;
        OldRoads x = new OldRoads();
        due("empty", NONE, x.text(0));
        due("no sort", NONE, tell(x, 2, "y:1"));
        due("no sort", NONE, x.text(-1));
        due("the TAPE stays", 3, x.count(8));
        due("not a BOOK", NONE, x.text(1));
        for (int i = 0; i < 6; i++) {
            due("goer", i, tell(x, 0, "y:1" + i));
            due("the TAPE is empty", 0, x.count(8));
            due("goers", i + 1, x.count(1));
        }
        due("a seventh", NONE, tell(x, 0, "y:7"));
        due("the TAPE stays", 3, x.count(8));
        due("no FAULT", NONE, x.fault(0));
        due("six", 6, x.count(1));
        for (int i = 0; i < 6; i++) {
            due("each its own", 10 + i, x.pain(i, 0, false, 0, 2));
        }
        x.town(3);
        for (int i = 0; i < 4; i++) {
            due("book", i, tell(x, 1, "a1" + i + "a"));
            due("books", i + 1, x.count(2));
            due("the TAPE is empty", 0, x.count(8));
        }
        due("a fifth", NONE, tell(x, 1, "a77a"));
        due("the TAPE stays", 4, x.count(8));
        for (int i = 0; i < 4; i++) {
            due("each its own", 10 + i, x.stage(i, 0, 2));
        }
    }

    // ---- pain

    private static void painOfLetters() {
        promise = 9;
        OldRoads x = with("y:100+u", "y:100+d", "y:100+w+2*f+4*m", "y:100+s", "y:100+g", "y:100+t");
        x.draw(5, 5, 5, 5, 0, 30);
        x.draw(6, 5, 6, 5, 0, 70);
        x.draw(6, 5, 6, 5, 1, 1);
        x.draw(5, 4, 5, 4, 2, 1);
        x.draw(4, 5, 4, 5, 3, 1);
        int c = cell(5, 5);
        due("u up", 140, x.pain(0, 0, false, c, 2));
        due("u down", 100, x.pain(0, 0, false, c, 6));
        due("d up", 100, x.pain(1, 0, false, c, 2));
        due("d down", 130, x.pain(1, 0, false, c, 6));
        due("d from beside", 140, x.pain(1, 0, false, cell(6, 5), 6));
        due("w", 101, x.pain(2, 0, false, c, 2));
        due("f", 102, x.pain(2, 0, false, c, 0));
        due("m", 104, x.pain(2, 0, false, c, 6));
        due("none", 100, x.pain(2, 0, false, c, 4));
        due("out of the MARSH", 100, x.pain(2, 0, false, cell(4, 5), 2));
        due("s wet", 101, x.pain(3, 0, true, c, 2));
        due("s dry", 100, x.pain(3, 0, false, c, 2));
        due("g 0", 100, x.pain(4, 0, false, c, 2));
        due("g 99", 199, x.pain(4, 99, false, c, 2));
        for (int d = 0; d < 8; d++) {
            due("t " + d, 100 + d % 2, x.pain(5, 0, false, c, d));
        }
        x.draw(6, 5, 6, 5, 0, 31);
        due("drawn anew", 101, x.pain(0, 0, false, c, 2));
    }

    private static void painOfTexts() {
        promise = 9;
        Object[][] due = {{"y:0", 1}, {"y:1", 1}, {"y:0-5", 1}, {"y:9999", 9999}, {"y:9999+1", 10000}, {"y:9999+2", 10000},
            {"y:9999*9999/1000", 1000}, {"y:[0-9999]*9999/1000+1005", 5}, {"y:9999*100+9999-9999*99-9999", 100},
            {"y:9999*100+9999-9999*100", 100}, {"y:0-9999*100-9999+9999*100+200", 100}, {"y:[0-7]/2+10", 7}, {"y:7/[0-2]+10", 7},
            {"y:[0-7]/[0-2]+10", 13}, {"y:7/0+3", 3}, {"y:7/u+3", 3}, {"y:2+3*4", 14}, {"y:[2+3]*4", 20}, {"y:100-10-5", 85},
            {"y:100/10/5", 2}, {"y:100/10*5", 50}, {"y:7/2*2", 6}, {"y: 1 + 2 * [ 3 - 1 ] ", 5}, {"y:0012", 12},
            {"y:1=1?5;y:9", 5}, {"y:1=2?5;y:9", 9}, {"y:1<2?5;y:9", 5}, {"y:2<2?5;y:9", 9}, {"y:2>1?5;y:9", 5}, {"y:2>2?5;y:9", 9},
            {"y:!1=1?5;y:9", 9}, {"y:!1=2?5;y:9", 5}, {"y:!!1=1?5;y:9", 5}, {"y:1=1|1=1&1=2?5;y:9", 5},
            {"y:(1=1|1=1)&1=2?5;y:9", 9}, {"y:!1=2&1=2?5;y:9", 9}, {"y:!(1=2&1=2)?5;y:9", 5}, {"y:1=2|2=2?5;y:9", 5},
            {"y:1=1&2=2?5;y:9", 5}, {"y:1=1&2=3?5;y:9", 9}, {"y:5;y:9", 5}, {"y:1=2?5", 1}, {"y:1=2?5;y:1=2?6;y:1=1?7;y:8", 7},
            {"y:1+1=2?5;y:9", 5}, {"y:[1+1]*2=4?2*3;y:9", 6}, {"y:0-1<0?5;y:9", 5}, {"y:9999*9999=9999*1000?5;y:9", 5},
            {"y:[1]=1?5;y:9", 5}, {"y:!([1+1]>1&!(2=3))|1=2?5;y:9", 9}};
        for (Object[] row : due) {
            OldRoads x = with((String) row[0]);
            due("pain by " + row[0], (Integer) row[1], x.pain(0, 0, false, 60, 2));
        }
        OldRoads x = with("y:u>5?100+u;y:d>5&!w=1?50;y:w=1|t=1?20;y:7");
        x.draw(5, 5, 5, 5, 0, 6);
        x.draw(7, 5, 7, 5, 1, 1);
        due("up", 106, x.pain(0, 0, false, cell(4, 5), 2));
        due("down", 50, x.pain(0, 0, false, cell(5, 5), 2));
        due("water", 20, x.pain(0, 0, false, cell(6, 5), 2));
        due("slant", 20, x.pain(0, 0, false, cell(8, 8), 1));
        due("else", 7, x.pain(0, 0, false, cell(8, 8), 0));
    }

    private static void painRefused() {
        promise = 9;
        OldRoads x = with(PLAIN);
        due("ordinary", 10, x.pain(0, 0, false, 0, 2));
        yes("goer -1", painThrows(x, -1, 0, 0, 2));
        yes("goer 1", painThrows(x, 1, 0, 0, 2));
        yes("load -1", painThrows(x, 0, -1, 0, 2));
        yes("load 100", painThrows(x, 0, 100, 0, 2));
        yes("load 99", !painThrows(x, 0, 99, 0, 2));
        yes("cell -1", painThrows(x, 0, 0, -1, 2));
        yes("cell 120", painThrows(x, 0, 0, 120, 6));
        yes("direction -1", painThrows(x, 0, 0, 50, -1));
        yes("direction 8", painThrows(x, 0, 0, 50, 8));
        int[] corners = {0, 11, 119, 108};
        String[] inside = {"234", "456", "670", "012"};
        for (int k = 0; k < 4; k++) {
            for (int d = 0; d < 8; d++) {
                yes("corner " + corners[k] + " " + d, painThrows(x, 0, 0, corners[k], d) == (inside[k].indexOf('0' + d) < 0));
            }
        }
    }

    // ---- ways and sights

    private static void pains() {
        promise = 10;
        OldRoads x = with(PLAIN, "y:10+u*3+g+s", "y:9999+2");
        due("nine SLANT and two", 146, x.pains(0, 0, false, 0, 119));
        due("none", 0, x.pains(0, 0, false, 7, 7));
        x.draw(1, 0, 1, 9, 0, 5);
        due("up a wall", 10 + 15 + 10, x.pains(1, 0, false, 0, 2));
        due("down is free", 10, x.pains(1, 0, false, 1, 0));
        due("load and wet", 2 * 18 + 15, x.pains(1, 7, true, 0, 2));
        due("the greatest", 110000, x.pains(2, 0, false, 0, 119));
        due("goer 3", NONE, x.pains(3, 0, false, 0, 2));
        due("goer -1", NONE, x.pains(-1, 0, false, 0, 2));
        due("load -1", NONE, x.pains(0, -1, false, 0, 2));
        due("load 100", NONE, x.pains(0, 100, false, 0, 2));
        due("from -1", NONE, x.pains(0, 0, false, -1, 2));
        due("from 120", NONE, x.pains(0, 0, false, 120, 2));
        due("to -1", NONE, x.pains(0, 0, false, 0, -1));
        due("to 120", NONE, x.pains(0, 0, false, 0, 120));
    }

    private static void way() {
        promise = 11;
        OldRoads x = with(PLAIN, "y:1+t", "y:1", DRY);
        due("steps", 11, x.way(0, 0, false, 0, 119, NONE));
        due("from", 0, x.way(0, 0, false, 0, 119, 0));
        due("to", 119, x.way(0, 0, false, 0, 119, 11));
        due("beyond", NONE, x.way(0, 0, false, 0, 119, 12));
        due("i -2", NONE, x.way(0, 0, false, 0, 119, -2));
        due("one CELL", 0, x.way(0, 0, false, 5, 5, NONE));
        due("one CELL is it", 5, x.way(0, 0, false, 5, 5, 0));
        due("direction 2 ahead of 3", 1, x.way(0, 0, false, 0, cell(2, 1), 1));
        due("direction 3 ahead of 4", 13, x.way(0, 0, false, 0, cell(1, 2), 1));
        due("fewest STEPS", 1, x.way(1, 0, false, 0, 13, NONE));
        due("direction 1 ahead of 2 and 3", 13, x.way(2, 0, false, 24, 26, 1));
        due("direction 5 ahead of 6 and 7", 37, x.way(2, 0, false, 26, 24, 1));
        due("direction 0 ahead of 1 and 7", cell(5, 4), x.way(2, 0, false, cell(5, 5), cell(5, 3), 1));
        due("direction 3 ahead of 4 and 5", cell(6, 6), x.way(2, 0, false, cell(5, 5), cell(5, 7), 1));
        x.draw(5, 0, 5, 8, 3, 1);
        due("round the MARSH", 18, x.way(3, 0, false, 0, 11, NONE));
        due("by its end", cell(5, 9), x.way(3, 0, false, 0, 11, 9));
        due("four SLANT STEPS first", cell(4, 4), x.way(3, 0, false, 0, 11, 4));
        due("no such ones", NONE, x.way(4, 0, false, 0, 119, NONE));
        due("no such load", NONE, x.way(0, 100, false, 0, 119, 0));
        due("no such CELL", NONE, x.way(0, 0, false, 120, 119, NONE));
        due("no such CELL", NONE, x.way(0, 0, false, 0, -1, NONE));
    }

    private static void nearly() {
        promise = 12;
        OldRoads x = with(PLAIN, "y:u>0?50;y:10");
        due("the row alone", 12, x.nearly(0, 0, false, 0, 11, 0, NONE));
        due("117 are too few", 12, x.nearly(0, 0, false, 0, 11, 7, NONE));
        due("118 are not", 22, x.nearly(0, 0, false, 0, 11, 8, NONE));
        due("on", 1, x.nearly(0, 0, false, 0, 11, 8, 13));
        due("not on", 0, x.nearly(0, 0, false, 0, 11, 8, 12));
        due("all equal rows", 4, x.nearly(0, 0, false, 0, 25, 0, NONE));
        due("one CELL", 1, x.nearly(0, 0, false, 7, 7, 100, NONE));
        due("20 are too few for 24", 2, x.nearly(0, 0, false, 61, 62, 100, NONE));
        due("a CELL behind the end: there and back", 1, x.nearly(0, 0, false, 60, 62, 100, 63));
        due("two behind the end", 0, x.nearly(0, 0, false, 60, 62, 100, 64));
        x.draw(0, 1, 11, 1, 0, 9);
        due("up costs forward alone", 0, x.nearly(1, 0, false, 0, 11, 30, 17));
        due("up and down", 1, x.nearly(1, 0, false, 0, 11, 40, 17));
        due("hundredths -1", NONE, x.nearly(0, 0, false, 0, 11, -1, NONE));
        due("hundredths 101", NONE, x.nearly(0, 0, false, 0, 11, 101, NONE));
        due("cell -2", NONE, x.nearly(0, 0, false, 0, 11, 0, -2));
        due("cell 120", NONE, x.nearly(0, 0, false, 0, 11, 0, 120));
        due("goer 2", NONE, x.nearly(2, 0, false, 0, 11, 0, NONE));
        due("to 120", NONE, x.nearly(0, 0, false, 0, 120, 0, NONE));
    }

    private static void sees() {
        promise = 13;
        OldRoads x = new OldRoads();
        due("flat", 1, x.sees(0, 119));
        due("beside", 1, x.sees(0, 1));
        due("one CELL", NONE, x.sees(5, 5));
        due("cell -1", NONE, x.sees(-1, 5));
        due("cell 120", NONE, x.sees(5, 120));
        x.draw(1, 0, 1, 0, 0, 1);
        due("a half goes to the greater y", 1, x.sees(0, cell(2, 1)));
        due("back too", 1, x.sees(cell(2, 1), 0));
        x.draw(1, 1, 1, 1, 0, 1);
        due("now it is between", 0, x.sees(0, cell(2, 1)));
        due("back too", 0, x.sees(cell(2, 1), 0));
        x.draw(1, 0, 1, 0, 0, 0);
        due("from below the greater y too", 0, x.sees(cell(0, 1), cell(2, 0)));
        due("a half goes to the greater x", 0, x.sees(cell(0, 0), cell(1, 2)));
        x.draw(0, 5, 0, 5, 0, 10);
        x.draw(1, 5, 1, 5, 0, 5);
        due("5 is on the line from 10 to 0", 1, x.sees(cell(0, 5), cell(2, 5)));
        x.draw(1, 5, 1, 5, 0, 6);
        due("6 is above", 0, x.sees(cell(0, 5), cell(2, 5)));
        x.draw(0, 5, 0, 5, 0, 9);
        x.draw(2, 5, 2, 5, 0, 3);
        due("9 6 3 0", 1, x.sees(cell(0, 5), cell(3, 5)));
        due("0 3 6 9", 1, x.sees(cell(3, 5), cell(0, 5)));
        x.draw(2, 5, 2, 5, 0, 4);
        due("9 6 4 0", 0, x.sees(cell(0, 5), cell(3, 5)));
        x.draw(2, 5, 2, 5, 0, 3);
        x.draw(1, 5, 1, 5, 0, 7);
        due("9 7 3 0", 0, x.sees(cell(0, 5), cell(3, 5)));
        x.draw(4, 8, 4, 8, 0, 99);
        due("a peak sees", 1, x.sees(cell(4, 8), cell(11, 8)));
        due("beside a peak", 1, x.sees(cell(3, 8), cell(4, 8)));
    }

    private static void sights() {
        promise = 14;
        OldRoads x = new OldRoads();
        due("one hop", 1, x.sights(0, 119, 11, NONE));
        due("hops of one", 11, x.sights(0, 119, 1, NONE));
        due("hops of five", 3, x.sights(0, 11, 5, NONE));
        int[] row = {0, 1, 6, 11, NONE};
        for (int i = 0; i < row.length; i++) {
            due("CELL " + i, row[i], x.sights(0, 11, 5, i));
        }
        due("i -2", NONE, x.sights(0, 11, 5, -2));
        due("hops of four", 3, x.sights(0, 11, 4, NONE));
        due("back: the lower first", 6, x.sights(11, 0, 5, 1));
        due("one CELL", 0, x.sights(3, 3, 5, NONE));
        due("one CELL is it", 3, x.sights(3, 3, 5, 0));
        x.draw(5, 0, 5, 9, 0, 50);
        due("over the ridge", 2, x.sights(0, 11, 11, NONE));
        due("from its lowest CELL that is seen", 5, x.sights(0, 11, 11, 1));
        due("by two", 6, x.sights(0, 11, 2, NONE));
        due("far 0", NONE, x.sights(0, 11, 0, NONE));
        due("far 12", NONE, x.sights(0, 11, 12, NONE));
        due("from 120", NONE, x.sights(120, 11, 1, NONE));
        due("to -1", NONE, x.sights(0, -1, 1, NONE));
    }

    // ---- lines

    private static void lineOfWay() {
        promise = 15;
        OldRoads x = with(PLAIN);
        due("first", 0, x.lineOfWay(0, 0, false, 0, 26));
        due("CELLS", 3, x.line(0, NONE));
        due("CELL 1", 13, x.line(0, 1));
        due("no such goer", NONE, x.lineOfWay(1, 0, false, 0, 26));
        due("no such load", NONE, x.lineOfWay(0, 100, false, 0, 26));
        due("no such CELL", NONE, x.lineOfWay(0, 0, false, 0, 120));
        x.draw(1, 1, 1, 1, 3, 1);
        for (int i = 1; i < 10; i++) {
            due("LINE", i, x.lineOfWay(0, 0, false, i, i));
        }
        due("one CELL", 1, x.line(9, NONE));
        due("an eleventh", NONE, x.lineOfWay(0, 0, false, 0, 26));
        due("nor of SIGHTS", NONE, x.lineOfSight(0, 26, 3));
        due("nor STRAIGHT", NONE, x.lineOfSight(0, 26, 0));
        due("nor by hand", NONE, x.lineAt(0));
        due("ten", 10, x.count(3));
        promise = 19;
        due("line 10", NONE, x.line(10, NONE));
        due("line -1", NONE, x.line(-1, NONE));
        due("i 3", NONE, x.line(0, 3));
        due("i -2", NONE, x.line(0, -2));
        due("last CELL", 26, x.line(0, 2));
    }

    private static void lineOfSight() {
        promise = 16;
        OldRoads x = new OldRoads();
        due("STRAIGHT", 0, x.lineOfSight(0, 119, 0));
        int[] ys = {0, 1, 2, 2, 3, 4, 5, 6, 7, 7, 8, 9};
        for (int i = 0; i < 12; i++) {
            due("CELL " + i, 12 * ys[i] + i, x.line(0, i));
        }
        due("twelve", 12, x.line(0, NONE));
        x.draw(5, 0, 5, 9, 0, 50);
        due("whatever is seen", 1, x.lineOfSight(0, 11, 0));
        due("all CELLS", 12, x.line(1, NONE));
        due("of SIGHTS", 2, x.lineOfSight(0, 11, 3));
        int hops = x.sights(0, 11, 3, NONE);
        due("hops", 4, hops);
        due("ends not twice", 12, x.line(2, NONE));
        for (int i = 0; i < 12; i++) {
            yes("beside", i == 0 || x.line(2, i) % 12 == x.line(2, i - 1) % 12 + 1);
        }
        due("ends in", 11, x.line(2, 11));
        due("one CELL", 3, x.lineOfSight(7, 7, 4));
        due("it alone", 1, x.line(3, NONE));
        due("is it", 7, x.line(3, 0));
        due("one CELL STRAIGHT", 4, x.lineOfSight(8, 8, 0));
        due("it alone", 1, x.line(4, NONE));
        due("far -1", NONE, x.lineOfSight(0, 11, -1));
        due("far 12", NONE, x.lineOfSight(0, 11, 12));
        due("from -1", NONE, x.lineOfSight(-1, 11, 0));
        due("to 120", NONE, x.lineOfSight(0, 120, 3));
        due("five", 5, x.count(3));
    }

    private static void linesByHand() {
        promise = 18;
        OldRoads x = with(PLAIN);
        due("there is none", NONE, x.goOn(2));
        promise = 17;
        due("cell -1", NONE, x.lineAt(-1));
        due("cell 120", NONE, x.lineAt(120));
        due("first", 0, x.lineAt(0));
        due("one CELL", 1, x.line(0, NONE));
        promise = 18;
        for (int d : new int[] {0, 1, 5, 6, 7, -1, 8, Integer.MIN_VALUE}) {
            due("out of the LAND " + d, NONE, x.goOn(d));
        }
        for (int i = 2; i <= 60; i++) {
            due("goes on", i, x.goOn(i % 2 == 0 ? 3 : 7));
        }
        due("it has 60", NONE, x.goOn(7));
        due("sixty", 60, x.line(0, NONE));
        due("last", 13, x.line(0, 59));
        due("first", 0, x.line(0, 0));
        due("another", 1, x.lineAt(119));
        due("the latest alone", 2, x.goOn(7));
        due("the first stays", 60, x.line(0, NONE));
        due("CELL", 119 - 13, x.line(1, 1));
        due("of a WAY", 2, x.lineOfWay(0, 0, false, 0, 2));
        due("the latest LINE goes on", 4, x.goOn(4));
        due("CELL", 14, x.line(2, 3));
    }

    private static void about() {
        promise = 20;
        OldRoads x = new OldRoads();
        hand(x, 24, "1122");
        due("MILES 28 and 20", 4, x.about(0, 0));
        due("TURNS", 1, x.about(0, 1));
        due("RUN", 2, x.about(0, 2));
        hand(x, 60, "20202222");
        due("MILES", 8, x.about(1, 0));
        due("TURNS", 4, x.about(1, 1));
        due("RUN", 4, x.about(1, 2));
        hand(x, 12, "33333");
        due("MILES of 70", 7, x.about(2, 0));
        due("TURNS", 0, x.about(2, 1));
        due("RUN", 5, x.about(2, 2));
        hand(x, 12, "3333326");
        due("MILES of 90", 9, x.about(3, 0));
        due("TURNS", 2, x.about(3, 1));
        hand(x, 60, "1");
        due("MILES of 14", 1, x.about(4, 0));
        due("RUN", 1, x.about(4, 2));
        hand(x, 5, "");
        for (int what = 0; what < 3; what++) {
            due("one CELL", 0, x.about(5, what));
        }
        due("what 3", NONE, x.about(0, 3));
        due("what -1", NONE, x.about(0, -1));
        due("line 6", NONE, x.about(6, 0));
        due("line -1", NONE, x.about(-1, 0));
    }

    // ---- finds and known roads

    private static void finds() {
        promise = 21;
        OldRoads x = new OldRoads();
        int[][] wrong = {{-1, 0, 1}, {120, 0, 1}, {0, -1, 1}, {0, 4, 1}, {0, 0, 0}, {0, 0, 10}};
        for (int[] w : wrong) {
            due("refused", NONE, x.find(w[0], w[1], w[2]));
        }
        for (int i = 0; i < 30; i++) {
            due("find", i, x.find(i % 2 == 0 ? 0 : cell(4, 0), i % 4, 1 + i % 9));
        }
        due("a 31st", NONE, x.find(0, 0, 1));
        due("thirty", 30, x.count(4));
        promise = 22;
        x = new OldRoads();
        hand(x, cell(3, 3), "2");
        x.find(cell(3, 3), 0, 1);
        x.find(cell(5, 4), 1, 2);
        x.find(cell(6, 5), 2, 4);
        x.find(cell(9, 3), 3, 8);
        x.find(cell(3, 3), 3, 9);
        due("far 0", 10, x.near(0, 0, 15));
        due("far 1", 12, x.near(0, 1, 15));
        due("far 2", 16, x.near(0, 2, 15));
        due("far 4", 16, x.near(0, 4, 15));
        due("far 5", 24, x.near(0, 5, 15));
        due("SURE", 1, x.near(0, 5, 1));
        due("LIKELY", 2, x.near(0, 5, 2));
        due("LATE", 4, x.near(0, 5, 4));
        due("LED", 17, x.near(0, 5, 8));
        due("none", 0, x.near(0, 5, 0));
        due("far -1", NONE, x.near(0, -1, 15));
        due("far 6", NONE, x.near(0, 6, 15));
        due("sorts -1", NONE, x.near(0, 0, -1));
        due("sorts 16", NONE, x.near(0, 0, 16));
        due("line 1", NONE, x.near(1, 0, 15));
        due("line -1", NONE, x.near(-1, 0, 15));
    }

    private static void against() {
        promise = 23;
        OldRoads x = new OldRoads();
        hand(x, 0, "");
        hand(x, cell(5, 5), "2");
        hand(x, cell(2, 5), "22222222");
        due("a corner", 15, x.against(0, 0, 15, 1));
        due("the middle", 48, x.against(1, 0, 15, 1));
        due("two to the west, one to the east", 4 * 7 - 1, x.against(2, 0, 15, 1));
        due("all as much as nothing", 15, x.against(0, 0, 15, 0));
        x.find(0, 1, 5);
        due("none as much", 0, x.against(0, 0, 15, 0));
        due("three within one", 3, x.against(0, 1, 15, 0));
        due("eight within two", 8, x.against(0, 2, 15, 0));
        x.find(cell(3, 0), 2, 5);
        due("one as much", 1, x.against(0, 0, 15, 0));
        due("of this sort none", 0, x.against(0, 0, 2, 0));
        due("of the other all but that one is more than 0", 15, x.against(0, 0, 4, 0));
        due("far 6", NONE, x.against(0, 6, 15, 0));
        due("far -1", NONE, x.against(0, -1, 15, 0));
        due("sorts 16", NONE, x.against(0, 0, 16, 0));
        due("what 2", NONE, x.against(0, 0, 15, 2));
        due("what -1", NONE, x.against(0, 0, 15, -1));
        due("line 3", NONE, x.against(3, 0, 15, 1));
    }

    private static void known() {
        promise = 24;
        OldRoads x = with(PLAIN, DRY);
        x.draw(5, 0, 5, 8, 3, 1);
        due("no LINE", NONE, x.known(0));
        x.lineOfSight(0, 11, 0);
        x.lineOfWay(1, 0, false, 0, 11);
        promise = 26;
        due("none KNOWN: the lowest", 0, x.best(0, false, 0));
        due("none KNOWN: 0", 0, x.best(0, false, 1));
        promise = 24;
        due("one", 1, x.known(0));
        due("known already", NONE, x.known(0));
        promise = 27;
        due("fewer than two", NONE, x.tried(0, false));
        promise = 24;
        due("two", 2, x.known(1));
        promise = 25;
        due("the row", 0, x.miss(0, 0, false, 0));
        due("round the MARSH, four CELLS by the row", 15, x.miss(1, 0, false, 0));
        due("six CELLS beside", 6, x.miss(0, 0, false, 1));
        due("its own", 0, x.miss(1, 0, false, 1));
        due("i 2", NONE, x.miss(0, 0, false, 2));
        due("i -1", NONE, x.miss(0, 0, false, -1));
        due("goer 2", NONE, x.miss(2, 0, false, 0));
        due("load 100", NONE, x.miss(0, 100, false, 0));
        promise = 26;
        due("best", 0, x.best(0, false, 0));
        due("its FIT", 6, x.best(0, false, 1));
        due("load -1", NONE, x.best(-1, false, 0));
        due("load 100", NONE, x.best(100, false, 0));
        due("what 2", NONE, x.best(0, false, 2));
        due("what -1", NONE, x.best(0, false, -1));
        promise = 27;
        due("each by the other", 21, x.tried(0, false));
        due("load 100", NONE, x.tried(100, false));
        due("load -1", NONE, x.tried(-1, false));
        promise = 24;
        for (int i = 2; i < 8; i++) {
            x.lineAt(i);
            due("known", i < 6 ? i + 1 : NONE, x.known(i));
        }
        due("line 8", NONE, x.known(8));
        due("line -1", NONE, x.known(-1));
        due("six", 6, x.count(5));
        promise = 25;
        x = with(DRY, PLAIN);
        x.draw(5, 0, 5, 8, 3, 1);
        hand(x, 0, "");
        x.known(0);
        due("a road of one CELL", 0, x.miss(0, 0, false, 0));
        for (int i = 0; i < 11; i++) {
            x.goOn(2);
        }
        due("a KNOWN road that went on", 15, x.miss(0, 0, false, 0));
        promise = 26;
        due("the second", 1, x.best(0, false, 0));
        due("0", 0, x.best(0, false, 1));
        due("no GOERS", NONE, new OldRoads().best(0, false, 0));
        promise = 27;
        due("no GOERS", NONE, new OldRoads().tried(0, false));
    }

    // ---- books

    private static void books() {
        promise = 28;
        OldRoads x = with(PLAIN, DRY);
        x.town(0);
        x.town(11);
        x.town(119);
        due("book", 0, tell(x, 1, " a 11 b09 c  7a5a"));
        int[][] stages = {{0, 1, 11}, {1, 2, 9}, {2, 0, 7}, {0, 0, 5}};
        for (int s = 0; s < 4; s++) {
            for (int what = 0; what < 3; what++) {
                due("stage " + s + " " + what, stages[s][what], x.stage(0, s, what));
            }
        }
        yes("stage 4", stageThrows(x, 0, 4, 0));
        yes("stage -1", stageThrows(x, 0, -1, 0));
        yes("book 1", stageThrows(x, 1, 0, 0));
        yes("book -1", stageThrows(x, -1, 0, 0));
        yes("what 3", stageThrows(x, 0, 0, 3));
        yes("what -1", stageThrows(x, 0, 0, -1));
        promise = 29;
        due("right", 0, x.off(0, 0, 0, 0, false));
        due("right", 0, x.off(0, 1, 0, 0, false));
        due("7 for 14", -7, x.off(0, 2, 0, 0, false));
        due("two TOWNS alike", 5, x.off(0, 3, 0, 0, false));
        x.draw(5, 0, 5, 8, 3, 1);
        due("MILES of the WAY, not its PAINS", 11 - 22, x.off(0, 0, 1, 0, false));
        due("stage 4", HIDDEN, x.off(0, 4, 0, 0, false));
        due("stage -1", HIDDEN, x.off(0, -1, 0, 0, false));
        due("book 1", HIDDEN, x.off(1, 0, 0, 0, false));
        due("book -1", HIDDEN, x.off(-1, 0, 0, 0, false));
        due("goer 2", HIDDEN, x.off(0, 0, 2, 0, false));
        due("load 100", HIDDEN, x.off(0, 0, 0, 100, false));
        due("load -1", HIDDEN, x.off(0, 0, 0, -1, false));
        promise = 31;
        OldRoads light = with("y:10+4*t+9000*g*m");
        light.draw(5, 0, 5, 8, 3, 1);
        light.town(0);
        light.town(11);
        due("book", 0, tell(light, 1, "a11b"));
        due("without load", 1, light.holds(0, 0, 0));
        due("with load", 11 - 22, light.off(0, 0, 0, 1, false));
        due("holds by 0", 2, x.holds(0, 0, 0));
        due("holds by 4", 2, x.holds(0, 0, 4));
        due("holds by 5", 3, x.holds(0, 0, 5));
        due("holds by 6", 3, x.holds(0, 0, 6));
        due("holds by 7", 4, x.holds(0, 0, 7));
        due("holds by 20", 4, x.holds(0, 0, 20));
        due("the other GOER", 1, x.holds(0, 1, 0));
        due("by -1", NONE, x.holds(0, 0, -1));
        due("by 21", NONE, x.holds(0, 0, 21));
        due("book 1", NONE, x.holds(1, 0, 0));
        due("book -1", NONE, x.holds(-1, 0, 0));
        due("goer 2", NONE, x.holds(0, 2, 0));
        due("goer -1", NONE, x.holds(0, -1, 0));
    }

    private static void slip() {
        promise = 30;
        OldRoads x = with(PLAIN);
        x.town(0);
        x.town(119);
        x.town(5);
        // a c is 5 MILES, a b is 14.
        due("book", 0, tell(x, 1, "a14b41a24b15a51b12a99b10a4b"));
        int[] far = {0, 1, 2, 2, 3, 2, 3, 2, 2};
        for (int s = 0; s < far.length; s++) {
            due("14 MILES, stage " + s, far[s], x.slip(0, s, 0, 0, false, 0));
        }
        due("book", 1, tell(x, 1, "a5c50a15c6a66c55a0c1a"));
        int[] close = {0, 1, 2, 2, 3, 2, 2, 2};
        for (int s = 0; s < close.length; s++) {
            due("5 MILES, stage " + s, close[s], x.slip(1, s, 0, 0, false, 0));
        }
        due("by 26", NONE, x.slip(0, 1, 0, 0, false, 26));
        due("OFF by 10, 10 allowed", 0, x.slip(0, 2, 0, 0, false, 10));
        due("OFF by 10, 9 allowed", 2, x.slip(0, 2, 0, 0, false, 9));
        due("4 less, 4 allowed", 0, x.slip(0, 7, 0, 0, false, 4));
        due("4 less, 3 allowed", 2, x.slip(0, 7, 0, 0, false, 3));
        due("by 20", 1, x.slip(0, 1, 0, 0, false, 20));
        due("by -1", NONE, x.slip(0, 0, 0, 0, false, -1));
        due("by 21", NONE, x.slip(0, 0, 0, 0, false, 21));
        due("stage 9", NONE, x.slip(0, 9, 0, 0, false, 0));
        due("book 2", NONE, x.slip(2, 0, 0, 0, false, 0));
        due("goer 1", NONE, x.slip(0, 0, 1, 0, false, 0));
        due("load 100", NONE, x.slip(0, 0, 0, 100, false, 0));
    }

    /** A WAY down a hundred CELLS, each one lower, up and down two rows at a time: 54 STEPS and 45 SLANT ones. */
    private static void slipAboveNinetyNine() {
        promise = 30;
        OldRoads x = with("y:d=1?1;y:9999");
        int last = 0;
        for (int k = 0; k < 100; k++) {
            int band = k / 24;
            int along = k % 24 / 2;
            int column = band % 2 == 0 ? along : 11 - along;
            last = cell(column, band * 2 + k % 2);
            x.draw(column, band * 2 + k % 2, column, band * 2 + k % 2, 0, 99 - k);
        }
        x.town(0);
        x.town(last);
        due("99 STEPS", 99, x.pains(0, 0, false, 0, last));
        due("book", 0, tell(x, 1, "a71b"));
        due("117 MILES", 71 - 117, x.off(0, 0, 0, 0, false));
        due("something else", 3, x.slip(0, 0, 0, 0, false, 0));
        due("book", 1, tell(x, 1, "a99b"));
        due("18 allowed", 0, x.slip(1, 0, 0, 0, false, 18));
        due("17 allowed", 3, x.slip(1, 0, 0, 0, false, 17));
        due("book", 2, tell(x, 1, "a16b"));
        due("something else", 3, x.slip(2, 0, 0, 0, false, 20));
        int[][] rows = {{47, 74, 1}, {47, 42, 2}, {47, 57, 2}, {47, 48, 2}, {47, 83, 3}, {47, 7, 2}, {47, 4, 3}, {99, 90, 2},
            {99, 9, 2}, {99, 11, 3}, {99, 99, 0}, {60, 6, 1}, {60, 0, 2}, {83, 38, 1}, {88, 89, 2}, {25, 52, 1}};
        for (int[] row : rows) {
            OldRoads down = downTheRows(0, row[0]);
            due("book", 0, tell(down, 1, "a" + row[1] + "b"));
            due("MILES of so many STEPS", row[1] - row[0], down.off(0, 0, 0, 0, false));
            due(row[1] + " for " + row[0], row[2], down.slip(0, 0, 0, 0, false, 0));
        }
        OldRoads hundred = downTheRows(3, 99);
        due("book", 0, tell(hundred, 1, "a90b1a"));
        due("99 STEPS, three SLANT", 90 - 100, hundred.off(0, 0, 0, 0, false));
        due("above 99", 3, hundred.slip(0, 0, 0, 0, false, 0));
    }

    /** Each CELL one lower than the one before: east, west, east; the first corners are cut by a SLANT STEP. */
    private static OldRoads downTheRows(int cuts, int steps) {
        OldRoads x = with("y:d=1?1;y:9999");
        int made = 0;
        for (int y = 0; y < 10; y++) {
            for (int i = 0; i < (y < cuts ? 11 : 12) && made < 100; i++) {
                int column = y % 2 == 0 ? i : 11 - i;
                x.draw(column, y, column, y, 0, 99 - made);
                if (made == 0 || made == steps) {
                    x.town(cell(column, y));
                }
                made++;
            }
        }
        return x;
    }

    // ---- worlds, fields, hedges

    private static void worlds() {
        promise = 33;
        OldRoads x = with(PLAIN, DRY, "y:s=1?9999;y:g>0?9999;y:10+4*t");
        x.town(0);
        x.town(11);
        x.town(60);
        x.draw(5, 0, 5, 8, 3, 1);
        due("weight 1 at first", 1, x.evidence(0, 0, 1));
        x.find(cell(4, 1), 1, 3);
        x.find(cell(8, 1), 1, 5);
        x.find(cell(8, 1), 2, 9);
        x.find(cell(8, 1), 3, 9);
        x.find(cell(8, 2), 1, 7);
        due("LIKELY ones beside", 9, x.evidence(0, 0, 1));
        promise = 32;
        yes("weigh", x.weigh(0, 9));
        due("9 times 9", 81, x.evidence(0, 0, 1));
        yes("weigh 0", x.weigh(2, 0));
        due("nothing", 0, x.evidence(2, 0, 1));
        yes("weight -1", !x.weigh(0, -1));
        yes("weight 10", !x.weigh(0, 10));
        yes("goer 3", !x.weigh(3, 1));
        yes("goer -1", !x.weigh(-1, 1));
        due("as before", 81, x.evidence(0, 0, 1));
        promise = 33;
        yes("weigh 1", x.weigh(2, 1));
        due("without load, not WET", 9, x.evidence(2, 0, 1));
        promise = 34;
        // Goer 1 goes through (4,4)..(4,8), (5,9), (6,8)..(6,5), (9,2), (11,0): (8,1) and (8,2) are beside.
        due("the other WORLD", 13, x.evidence(1, 0, 1));
        due("ALL", 81 + 13 + 9, x.odds(0, 1, NONE));
        due("of the row", 81 + 9, x.odds(0, 1, 5));
        due("of its end", 13, x.odds(0, 1, cell(5, 9)));
        due("of both", 103, x.odds(0, 1, 0));
        due("of none", 0, x.odds(0, 1, cell(9, 9)));
        promise = 33;
        x.find(cell(1, 1), 0, 9);
        due("a SURE one beside both", 81, x.evidence(0, 0, 1));
        x.find(cell(5, 8), 0, 1);
        due("a SURE one that is not", 0, x.evidence(0, 0, 1));
        due("a SURE one beside", 13, x.evidence(1, 0, 1));
        due("one TOWN", NONE, x.evidence(0, 1, 1));
        due("goer 3", NONE, x.evidence(3, 0, 1));
        due("goer -1", NONE, x.evidence(-1, 0, 1));
        due("town 3", NONE, x.evidence(0, 0, 3));
        due("town -1", NONE, x.evidence(0, -1, 0));
        promise = 34;
        due("ALL", 13, x.odds(0, 1, NONE));
        due("one TOWN", NONE, x.odds(0, 0, 5));
        due("town 3", NONE, x.odds(0, 3, 5));
        due("town -1", NONE, x.odds(-1, 0, 5));
        due("cell 120", NONE, x.odds(0, 1, 120));
        due("cell -2", NONE, x.odds(0, 1, -2));
        promise = 35;
        due("cell -1", NONE, x.pit(-1));
        due("cell 120", NONE, x.pit(120));
        for (int i = 0; i < 6; i++) {
            due("pit", i, x.pit(i));
        }
        due("a seventh", NONE, x.pit(7));
        due("six", 6, x.count(6));
    }

    private static void dig() {
        promise = 36;
        // Three WORLDS of weight 2, 3 and 4: along the row, round a MARSH, round a WOOD.
        OldRoads x = with(PLAIN, "y:10+4*t+50*m", "y:10+4*t+50*f");
        x.town(0);
        x.town(11);
        due("no PITS", 0, x.dig(0, 1, 6));
        x.draw(2, 0, 3, 0, 3, 1);
        x.draw(8, 0, 9, 0, 2, 1);
        x.weigh(0, 2);
        x.weigh(1, 3);
        x.weigh(2, 4);
        due("row", 9, x.odds(0, 1, 5));
        due("no MARSH", 6, x.odds(0, 1, 2));
        due("no WOOD", 5, x.odds(0, 1, 8));
        x.pit(5);
        x.pit(2);
        x.pit(8);
        x.pit(9);
        x.pit(3);
        due("none", 0, x.dig(0, 1, 0));
        // {1}: 36 + 9 = 45; {2}: 25 + 16 = 41; {1, 2}: 4 + 9 + 16 = 29.
        due("the best of one", 4, x.dig(0, 1, 1));
        due("the best of two, the lower", 6, x.dig(0, 1, 2));
        due("the fewest", 6, x.dig(0, 1, 6));
        x.weigh(1, 0);
        due("the lower of two alike", 4, x.dig(0, 1, 2));
        x.weigh(0, 0);
        due("all one: none", 0, x.dig(0, 1, 6));
        x.weigh(0, 3);
        x.weigh(1, 3);
        x.weigh(2, 3);
        due("27 by {1} and {2}: the lower", 2, x.dig(0, 1, 1));
        due("two with the lower one first", 6, x.dig(0, 1, 3));
        due("many -1", NONE, x.dig(0, 1, -1));
        due("many 7", NONE, x.dig(0, 1, 7));
        due("one TOWN", NONE, x.dig(0, 0, 1));
        due("town 2", NONE, x.dig(0, 2, 1));
        due("town -1", NONE, x.dig(-1, 1, 1));
        digTies();
        // PITS 1 and 4 with 2 and 3: of four sets alike 1, 2 is the first, though 1, 3 and 4 part as much.
        OldRoads z = with(PLAIN, "y:10+4*t+50*m", "y:10+4*t+50*f");
        z.town(0);
        z.town(11);
        z.draw(2, 0, 3, 0, 3, 1);
        z.draw(8, 0, 9, 0, 2, 1);
        for (int cell : new int[] {8, 5, 60, 9, 3, 2}) {
            z.pit(cell);
        }
        due("0 and 4 ahead of 3 and 4 and of 0 and 5", 1 | 16, z.dig(0, 1, 6));
    }

    /** WORLDS whose WAYS have the PITS of these bits, along a row; each PIT has a ground of its own to be shunned. */
    private static int dug(int[] shown, int[] weights, int pits, int many) {
        OldRoads x = new OldRoads();
        x.town(0);
        x.town(11);
        for (int p = 0; p < pits; p++) {
            int column = 2 * p + 1;
            for (int what = 1; what < 4; what++) {
                x.draw(column, 0, column, 0, what, (p + 1) >> (what - 1) & 1);
            }
            x.pit(column);
        }
        for (int w = 0; w < shown.length; w++) {
            StringBuilder text = new StringBuilder();
            for (int p = 0; p < pits; p++) {
                if ((shown[w] >> p & 1) == 0) {
                    text.append(text.length() == 0 ? "y:" : "|").append("w+2*f+4*m=").append(p + 1);
                }
            }
            due("a WORLD", w, tell(x, 0, text + (text.length() == 0 ? "" : "?60;") + "y:10"));
            x.weigh(w, weights[w]);
            for (int p = 0; p < pits; p++) {
                due("no load, not WET", (shown[w] >> p & 1) == 1 ? 2 * p + 1 : 12 + 2 * p + 1, x.way(w, 0, false, 0, 11, 2 * p + 1));
            }
        }
        return x.dig(0, 1, many);
    }

    private static void digTies() {
        int[] shown = {3, 1, 2, 0};
        int[] weights = {1, 1, 2, 0};
        // 0 alone 4 + 4, 1 alone 9 + 1, both 1 + 1 + 4 + 0: how many apart does not count.
        due("0 1 ahead of 0", 3, dug(shown, weights, 2, 2));
        due("0 alone", 1, dug(shown, weights, 2, 1));
        shown = new int[] {3, 14, 4, 11, 7, 0};
        weights = new int[] {4, 2, 4, 7, 2, 6};
        due("0 3 ahead of 1 2 and 2 3", 1 | 8, dug(shown, weights, 4, 2));
        shown = new int[] {14, 22, 24, 13, 19, 7};
        weights = new int[] {5, 1, 5, 4, 8, 3};
        due("0 1 4 ahead of 0 2 3 and 0 3 4", 1 | 2 | 16, dug(shown, weights, 5, 3));
        shown = new int[] {1, 11, 11, 8, 4, 4};
        weights = new int[] {3, 3, 9, 3, 9, 4};
        due("0 3 ahead of 0 1 2 and others", 1 | 8, dug(shown, weights, 4, 3));
        shown = new int[] {10, 18, 19, 19, 18, 7};
        weights = new int[] {8, 4, 6, 3, 5, 3};
        due("0 4 ahead of 0 2 3 and others", 1 | 16, dug(shown, weights, 5, 3));
    }

    private static void fields() {
        promise = 37;
        OldRoads x = new OldRoads();
        int[][] wrong = {{-1, 0, 1, 1}, {0, -1, 1, 1}, {2, 0, 1, 1}, {0, 2, 1, 1}, {0, 0, 12, 1}, {0, 0, 1, 10}};
        for (int[] w : wrong) {
            due("refused", NONE, x.field(w[0], w[1], w[2], w[3]));
        }
        due("first", 0, x.field(2, 2, 6, 6));
        due("second", 1, x.field(0, 0, 11, 9));
        due("one CELL", 2, x.field(4, 2, 4, 2));
        due("flat", 3, x.field(2, 2, 6, 3));
        promise = 39;
        due("no LINE", HIDDEN, x.older(0));
        promise = 38;
        hand(x, cell(2, 1), "2222");
        hand(x, cell(2, 2), "22");
        hand(x, cell(1, 2), "22");
        hand(x, cell(1, 3), "22");
        hand(x, cell(2, 2), "223");
        hand(x, cell(4, 2), "26");
        hand(x, cell(9, 0), "22");
        due("outside", 0, x.meets(0, 0));
        due("at the rim", 2, x.meets(1, 0));
        due("two CELLS at the rim", 0, x.meets(2, 0));
        due("in", 1, x.meets(3, 0));
        due("both", 3, x.meets(4, 0));
        due("a FIELD of one CELL", 0, x.meets(1, 2));
        due("there and back", 2, x.meets(5, 0));
        due("two rows are all rim", 2, x.meets(1, 3));
        due("two rows", 0, x.meets(3, 3));
        due("the LAND's rim", 2, x.meets(6, 1));
        due("line 7", NONE, x.meets(7, 0));
        due("line -1", NONE, x.meets(-1, 0));
        due("field 4", NONE, x.meets(0, 4));
        due("field -1", NONE, x.meets(0, -1));
        promise = 39;
        due("cuts the second alone", 1, x.older(0));
        due("cuts one, follows two", -1, x.older(1));
        due("cuts two", 2, x.older(3));
        due("cuts two, follows one more", 1, x.older(4));
        due("follows one", -1, x.older(6));
        due("line 7", HIDDEN, x.older(7));
        due("line -1", HIDDEN, x.older(-1));
        promise = 37;
        for (int i = 4; i < 8; i++) {
            due("field", i, x.field(0, 0, 0, 0));
        }
        due("a ninth", NONE, x.field(0, 0, 0, 0));
        due("eight", 8, x.count(7));
    }

    private static void hedge() {
        promise = 40;
        OldRoads x = new OldRoads();
        hand(x, 0, "22224444");
        hand(x, cell(5, 5), "3335");
        due("pairs, one SLANT at the corner", 9, x.hedge(0, 2, 0));
        due("threes", 6, x.hedge(0, 3, 0));
        due("fives", 2, x.hedge(0, 5, 0));
        due("sixes", 0, x.hedge(0, 6, 0));
        due("SLANT pairs", 4, x.hedge(1, 2, 0));
        due("SLANT fours", 1, x.hedge(1, 4, 0));
        due("all pairs: 11 10 and 12 9 and twice 11 9", 110 + 108 + 198, x.hedge(0, 2, 1));
        due("all tens: 3 10 and 12 and twice 3", 30 + 12 + 6, x.hedge(0, 10, 1));
        due("all twelves", 10, x.hedge(0, 12, 1));
        due("many 1", NONE, x.hedge(0, 1, 0));
        due("many 13", NONE, x.hedge(0, 13, 1));
        due("what 2", NONE, x.hedge(0, 2, 2));
        due("what -1", NONE, x.hedge(0, 2, -1));
        due("line 2", NONE, x.hedge(2, 2, 0));
        due("line -1", NONE, x.hedge(-1, 2, 0));
        hand(x, cell(5, 5), "2626");
        due("CELLS twice count once", 1, x.hedge(2, 2, 0));
    }

    // ---- the net and the feet

    private static void net() {
        promise = 41;
        OldRoads x = with(PLAIN, "y:10+u");
        x.town(0);
        due("fewer than two", NONE, x.net(0, 0, false, 0));
        x.town(3);
        due("two", 30, x.net(0, 0, false, 0));
        due("two MUST", 1, x.net(0, 0, false, 1));
        due("two MAY", 1, x.net(0, 0, false, 2));
        x.town(cell(0, 3));
        x.town(cell(3, 3));
        due("a square", 90, x.net(0, 0, false, 0));
        due("no side MUST", 0, x.net(0, 0, false, 1));
        due("all sides MAY", 1 | 2 | 16 | 32, x.net(0, 0, false, 2));
        x.town(cell(9, 0));
        // Roads: ab ac ad ae bc bd be cd ce de: be is 60, de 60 + 12, ae 90, ce 90 + 12.
        due("one far", 150, x.net(0, 0, false, 0));
        due("that one MUST", 1 << 6, x.net(0, 0, false, 1));
        due("and the sides MAY", 1 | 2 | 1 << 5 | 1 << 6 | 1 << 7, x.net(0, 0, false, 2));
        x = with(PLAIN, "y:10+u");
        x.town(1);
        x.town(0);
        x.draw(0, 0, 0, 0, 0, 50);
        due("from the lower letter up", 60, x.net(1, 0, false, 0));
        x.draw(0, 0, 0, 0, 0, 0);
        x.draw(1, 0, 1, 0, 0, 50);
        due("from the lower letter down", 10, x.net(1, 0, false, 0));
        due("what 3", NONE, x.net(0, 0, false, 3));
        due("what -1", NONE, x.net(0, 0, false, -1));
        due("goer 2", NONE, x.net(2, 0, false, 0));
        due("load 100", NONE, x.net(0, 100, false, 0));
        x = with("y:1");
        for (int i = 0; i < 8; i++) {
            x.town(i);
        }
        // The least roads are those between neighbours: ab bc cd de ef fg gh.
        due("eight in a row", 7, x.net(0, 0, false, 0));
        int bits = 1 | 1 << 7 | 1 << 13 | 1 << 18 | 1 << 22 | 1 << 25 | 1 << 27;
        due("all MUST", bits, x.net(0, 0, false, 1));
        due("no others MAY", bits, x.net(0, 0, false, 2));
    }

    private static BigInteger next(BigInteger x) {
        BigInteger by = new BigInteger("6364136223846793005");
        return x.multiply(by).add(new BigInteger("1442695040888963407")).mod(BigInteger.ONE.shiftLeft(64));
    }

    private static void feet() {
        promise = 42;
        OldRoads x = with("y:10");
        x.town(0);
        due("fewer than two", NONE, x.feet(0, 0, false, 1, 5, 0));
        promise = 44;
        due("none walked", NONE, x.trips(0));
        due("none walked", NONE, x.trips(1));
        x.town(1);
        x.town(12);
        for (long seed : new long[] {0, 1, -1, 77, Long.MIN_VALUE, 123456789012345L}) {
            int[] trod = new int[120];
            int[] towns = {0, 1, 12};
            int fresh = 0;
            int settled = 0;
            BigInteger chance = BigInteger.valueOf(seed);
            for (int trip = 1; trip <= 9; trip++) {
                chance = next(chance);
                int from = chance.shiftRight(33).mod(BigInteger.valueOf(3)).intValue();
                chance = next(chance);
                int to = chance.shiftRight(33).mod(BigInteger.valueOf(2)).intValue();
                to = to >= from ? to + 1 : to;
                boolean isNew = trod[towns[from]] == 0 || trod[towns[to]] == 0;
                fresh += isNew ? 1 : 0;
                settled = isNew ? trip : settled;
                trod[towns[from]]++;
                trod[towns[to]]++;
            }
            promise = 42;
            due("beside one another", fresh == 1 ? 2 : 3, x.feet(0, 0, false, seed, 9, 0));
            promise = 43;
            for (int town : towns) {
                due("trodden by seed " + seed, trod[town], x.trodden(town));
            }
            due("no other", 0, x.trodden(13));
            promise = 44;
            due("NEW", fresh, x.trips(0));
            due("SETTLED", settled, x.trips(1));
        }
        promise = 44;
        due("what 2", NONE, x.trips(2));
        due("what -1", NONE, x.trips(-1));
        promise = 43;
        due("cell -1", NONE, x.trodden(-1));
        due("cell 120", NONE, x.trodden(120));
        promise = 42;
        int before = x.trodden(0);
        due("trips 0", NONE, x.feet(0, 0, false, 1, 0, 0));
        due("trips 41", NONE, x.feet(0, 0, false, 1, 41, 0));
        due("ease -1", NONE, x.feet(0, 0, false, 1, 5, -1));
        due("ease 10", NONE, x.feet(0, 0, false, 1, 5, 10));
        due("goer 1", NONE, x.feet(1, 0, false, 1, 5, 0));
        due("load 100", NONE, x.feet(0, 100, false, 1, 5, 0));
        due("refused: nothing changes", before, x.trodden(0));
        due("one trip, two CELLS", 2, x.feet(0, 0, false, 1, 1, 9));
        due("gone before", 2, x.trodden(0) + x.trodden(1) + x.trodden(12));
        due("forty trips", 3, x.feet(0, 0, false, 1, 40, 9));
        due("eighty ends", 80, x.trodden(0) + x.trodden(1) + x.trodden(12));
    }

    private static void feetEase() {
        promise = 42;
        OldRoads x = with("y:5", "y:t=1?5;y:6");
        x.town(24);
        x.town(26);
        // Without EASE: there by 13 (direction 1), back by 37 (direction 5).
        due("two WAYS", 4, x.feet(0, 0, false, 3, 20, 0));
        promise = 44;
        BigInteger chance = next(BigInteger.valueOf(3));
        int first = chance.shiftRight(33).mod(BigInteger.TWO).intValue();
        int trip = 1;
        int from = first;
        int there = 0;
        for (int t = 1; t <= 20; t++) {
            from = chance.shiftRight(33).mod(BigInteger.TWO).intValue();
            there += from == 0 ? 1 : 0;
            trip = trip == 1 && from != first ? t : trip;
            chance = next(next(chance));
        }
        due("NEW", 2, x.trips(0));
        due("SETTLED", trip, x.trips(1));
        promise = 45;
        due("ends", 2, x.worn(20));
        due("none more", 0, x.worn(21));
        due("all", 4, x.worn(1));
        due("often 0", NONE, x.worn(0));
        due("often 100", NONE, x.worn(100));
        due("often 99", 0, x.worn(99));
        promise = 43;
        due("there", there, x.trodden(13));
        due("back", 20 - there, x.trodden(37));
        promise = 46;
        OldRoads y = with("y:5");
        y.town(0);
        y.town(119);
        y.feet(0, 0, false, 3, 1, 0);
        hand(y, 1, "6");
        hand(y, 118, "2");
        due("the first CELL of the LAND", 1 + (y.trodden(1) > 0 ? 1 : 0), y.alike(0, 1));
        due("the last CELL of the LAND", 1 + (y.trodden(118) > 0 ? 1 : 0), y.alike(1, 1));
        hand(x, 24, "1357");
        hand(x, 24, "2266");
        due("round", 4, x.alike(0, 1));
        due("its ends, each once", 2, x.alike(0, 20));
        due("none more", 0, x.alike(0, 21));
        due("not the CELL between", 2, x.alike(1, 1));
        due("often 0", NONE, x.alike(0, 0));
        due("often 100", NONE, x.alike(0, 100));
        due("often 99", 0, x.alike(0, 99));
        due("line 2", NONE, x.alike(2, 1));
        due("line -1", NONE, x.alike(-1, 1));
        promise = 42;
        due("with EASE all go the first WAY", 3, x.feet(0, 0, false, 3, 20, 1));
        promise = 44;
        due("NEW", 1, x.trips(0));
        due("SETTLED", 1, x.trips(1));
        promise = 43;
        due("each trip", 20, x.trodden(first == 0 ? 13 : 37));
        promise = 42;
        due("PAIN 1 at least: fewest STEPS still", 3, x.feet(1, 0, false, 3, 40, 9));
    }

    // ---- eras

    private static void eras() {
        promise = 47;
        OldRoads x = with(DRY, "y:10+u");
        due("first", 0, x.era());
        promise = 49;
        due("as it was", 0, x.changed(0));
        x.draw(0, 0, 3, 0, 0, 7);
        x.draw(2, 0, 4, 0, 1, 1);
        x.draw(3, 0, 5, 0, 2, 1);
        x.draw(4, 0, 6, 0, 3, 1);
        due("seven CELLS", 7, x.changed(0));
        x.draw(0, 0, 0, 0, 0, 0);
        due("six", 6, x.changed(0));
        due("era 1", NONE, x.changed(1));
        due("era -1", NONE, x.changed(-1));
        promise = 47;
        due("second", 1, x.era());
        promise = 48;
        x.town(5);
        x.lineAt(5);
        due("brought back", 6, x.bring(0));
        due("height", 0, x.drawn(1, 0));
        due("water", 0, x.drawn(2, 1));
        due("wood", 0, x.drawn(3, 2));
        due("marsh", 0, x.drawn(4, 3));
        due("TOWNS stay", 1, x.count(0));
        due("LINES stay", 1, x.count(3));
        due("again", 0, x.bring(0));
        due("forth", 6, x.bring(1));
        due("height", 7, x.drawn(1, 0));
        due("marsh", 1, x.drawn(4, 3));
        due("era 2", NONE, x.bring(2));
        due("era -1", NONE, x.bring(-1));
        x.draw(0, 0, 11, 9, 0, 1);
        due("an ERA stays as it was", 120, x.bring(1));
        promise = 50;
        x.draw(0, 0, 11, 9, 3, 1);
        due("now", 9000 * 2 + 20, x.pains(0, 0, false, 60, 62));
        due("then PAINS", 20, x.then(0, 0, 0, false, 60, 62, NONE));
        due("then from", 60, x.then(0, 0, 0, false, 60, 62, 0));
        due("then to", 62, x.then(0, 0, 0, false, 60, 62, 2));
        due("then beyond", NONE, x.then(0, 0, 0, false, 60, 62, 3));
        due("i -2", NONE, x.then(0, 0, 0, false, 60, 62, -2));
        due("then up", 17, x.then(1, 1, 0, false, 0, 1, NONE));
        due("now is as it was", 9000 * 2 + 20, x.pains(0, 0, false, 60, 62));
        due("era 2", NONE, x.then(2, 0, 0, false, 60, 62, NONE));
        due("era -1", NONE, x.then(-1, 0, 0, false, 60, 62, NONE));
        due("goer 2", NONE, x.then(0, 2, 0, false, 60, 62, NONE));
        due("load 100", NONE, x.then(0, 0, 100, false, 60, 62, NONE));
        due("from 120", NONE, x.then(0, 0, 0, false, 120, 62, NONE));
        due("to -1", NONE, x.then(0, 0, 0, false, 60, -1, NONE));
        promise = 47;
        due("third", 2, x.era());
        due("fourth", 3, x.era());
        due("a fifth", NONE, x.era());
        due("four", 4, x.count(9));
    }

    private static void lasting() {
        promise = 51;
        OldRoads x = with(DRY);
        due("without ERAS", 0, x.lasting(0, 0, false, 0, 5));
        x.era();
        due("the same LAND", 6, x.lasting(0, 0, false, 0, 5));
        x.draw(2, 0, 3, 0, 3, 1);
        due("0 1 4 5 are on both", 4, x.lasting(0, 0, false, 0, 5));
        x.draw(2, 0, 3, 0, 3, 0);
        x.draw(1, 0, 1, 0, 3, 1);
        x.era();
        x.draw(1, 0, 1, 0, 3, 0);
        due("the second ERA has no 1", 5, x.lasting(0, 0, false, 0, 5));
        x.draw(4, 0, 4, 0, 3, 1);
        due("now has no 4", 4, x.lasting(0, 0, false, 0, 5));
        due("one CELL", 1, x.lasting(0, 0, false, 5, 5));
        due("goer 1", NONE, x.lasting(1, 0, false, 0, 5));
        due("load 100", NONE, x.lasting(0, 100, false, 0, 5));
        due("from -1", NONE, x.lasting(0, 0, false, -1, 5));
        due("to 120", NONE, x.lasting(0, 0, false, 0, 120));
        due("without ERAS, no such ones", NONE, new OldRoads().lasting(0, 0, false, 0, 5));
    }

    private static void count() {
        promise = 52;
        OldRoads x = with(PLAIN, PLAIN);
        x.town(0);
        x.town(1);
        x.town(2);
        tell(x, 1, "a1b");
        for (int i = 0; i < 4; i++) {
            x.lineAt(i);
        }
        for (int i = 0; i < 5; i++) {
            x.find(i, 0, 1);
        }
        x.known(2);
        x.known(3);
        for (int i = 0; i < 6; i++) {
            x.pit(i);
        }
        for (int i = 0; i < 7; i++) {
            x.field(0, 0, 1, 1);
        }
        feed(x, "12345678");
        x.era();
        x.era();
        x.era();
        int[] all = {3, 2, 1, 4, 5, 2, 6, 7, 8, 3};
        for (int what = 0; what < 10; what++) {
            due("count(" + what + ")", all[what], x.count(what));
        }
        due("count(10)", NONE, x.count(10));
        due("count(-1)", NONE, x.count(-1));
    }
}
