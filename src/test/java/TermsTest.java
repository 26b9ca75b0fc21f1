/**
 * Each sentence of the Terms that names a bound: how many, from where to where, what is within and what at a rim, what
 * goes round, what is cut, which of several. The answers are worked out by hand from the sentence that stands above them.
 */
public final class TermsTest {
    private static final Checks CHECKS = new Checks("TermsTest");
    private static final String FLAT = "goer y:10+4*t";

    public static void main(String[] args) {
        theLand();
        towns();
        directions();
        tape();
        textsTakeTheTape();
        goersAndClauses();
        numbersInTexts();
        sixWithinOneAnother();
        blanks();
        endsTooEarly();
        withinAMillion();
        cutsTowardsNought();
        worth();
        painAndItsLetters();
        wayOfSeveral();
        nearly();
        seesByTheLine();
        toTheNearest();
        sights();
        sightsOfSeveral();
        lines();
        noneTwiceBehindItself();
        milesTurnsRun();
        finds();
        near();
        against();
        known();
        bestAndTried();
        books();
        blanksInBooks();
        stages();
        slips();
        allSlips();
        holds();
        weights();
        evidence();
        odds();
        pits();
        partedOfSeveral();
        fields();
        cutsAndFollows();
        older();
        hedges();
        net();
        netOfSeveral();
        netByOne();
        feetAtTheirBounds();
        feetGoRound();
        feetByTheLatest();
        easeToOne();
        wornAndAlike();
        eras();
        bringAndThen();
        lasting();
        CHECKS.end();
    }

    private static Story story(String saying, String... calls) {
        return new Story(CHECKS, saying, calls);
    }

    /** ^ stands ahead of the byte that is the FAULT, or at the end, if the text ends too early. */
    private static void fault(Story x, int sort, String marked) {
        int fault = marked.indexOf('^');
        x.due("tape " + marked.replace("^", ""), marked.length() - 1);
        x.due("fault " + sort, fault);
        x.refused("text " + sort);
    }

    private static void good(Story x, int sort, String text) {
        x.due("tape " + text, text.length());
        x.due("fault " + sort, -1);
        x.allowed("text " + sort);
    }

    private static void pain(String text, long want) {
        Story x = story("y: " + text, "goer y:" + text);
        x.due("pain 0 0 dry 60 2", want);
    }

    // ---- the land

    private static void theLand() {
        Story x = story("THE LAND has 12 by 10 CELLS, number 12 y and x");
        x.due("draw 11 9 11 9 0 7", 1);
        x.due("drawn 119 0", 7);
        x.refused("drawn 120 0");
        x.refused("drawn -1 0");
        x.refused("draw 12 9 12 9 0 7");
        x.refused("draw 11 10 11 10 0 7");
        x.refused("draw 11 9 12 9 0 7");
        x.refused("draw 11 9 11 10 0 7");
        x.refused("draw -1 0 0 0 0 7");
        x.refused("draw 0 -1 0 0 0 7");
        x.due("draw 5 7 5 7 0 3", 1);
        x.due("drawn 89 0", 3);
        x.due("drawn 88 0", 0);
        x.about("CELLS from x, y to x2, y2 (no less)");
        x.due("draw 3 3 3 3 1 1", 1);
        x.due("drawn 39 1", 1);
        for (int beside : new int[] {38, 40, 27, 51}) {
            x.due("drawn " + beside + " 1", 0);
        }
        x.refused("draw 3 3 2 3 1 1");
        x.refused("draw 3 3 3 2 1 1");
        x.due("draw 0 0 11 9 2 1", 1);
        x.due("drawn 0 2", 1);
        x.due("drawn 119 2", 1);
        x = story("a HEIGHT (0 .. 99), WATER, WOOD, MARSH or not (0 and none at first)");
        for (int what = 0; what < 4; what++) {
            x.due("drawn 0 " + what, 0);
            x.due("drawn 119 " + what, 0);
            int most = what == 0 ? 99 : 1;
            x.due("draw 4 4 5 4 " + what + " " + most, 1);
            x.due("drawn 52 " + what, most);
            x.refused("draw 4 4 5 4 " + what + " " + (most + 1));
            x.refused("draw 4 4 5 4 " + what + " -1");
            x.due("draw 4 4 4 4 " + what + " 0", 1);
            x.due("drawn 52 " + what, 0);
            x.due("drawn 53 " + what, most);
        }
        x.refused("draw 4 4 5 4 4 1");
        x.refused("draw 4 4 5 4 -1 1");
        x.refused("drawn 52 4");
        x.refused("drawn 52 -1");
    }

    private static void towns() {
        Story x = story("TOWNS (8 at most, letters a ..) are CELLS, no two in one", FLAT);
        for (int i = 0; i < 7; i++) {
            x.due("town " + 17 * i, i);
            x.refused("town " + 17 * i);
        }
        fault(x, 1, "a1g1^h");
        x.due("town 119", 7);
        good(x, 1, "a1g1h");
        fault(x, 1, "a1g1^i");
        x.refused("town 1");
        x.refused("town 119");
        x.due("count 0", 8);
        x.allowed("evidence 0 0 7");
        x.refused("evidence 0 0 8");
    }

    private static void directions() {
        Story x = story("Directions 0 .. 7: north (y one less), north-east, east, and so on round", "goer y:10+t", "lineAt 65");
        int[] beside = {53, 54, 66, 78, 77, 76, 64, 52};
        for (int d = 0; d < 8; d++) {
            x.due("lineAt 65", d + 1);
            x.due("goOn " + d, 2);
            x.due("line " + (d + 1) + " 1", beside[d]);
            x.about("a STEP is SLANT in 1, 3, 5, 7");
            x.due("pain 0 0 dry 65 " + d, d % 2 == 1 ? 11 : 10);
        }
        x.refused("goOn 8");
        x.refused("goOn -1");
        x.refused("pain 0 0 dry 65 8");
        x.refused("pain 0 0 dry 65 -1");
        x.about("STEPS go to the CELL beside: not round the LAND");
        x.due("lineAt 23", 9);
        x.refused("goOn 2");
        x.refused("goOn 1");
        x.refused("goOn 3");
        x.due("goOn 4", 2);
    }

    // ---- texts

    private static void tape() {
        Story x = story("Twenty bytes more come to the TAPE (of each number the highest first; bytes of 0 are left out)");
        // y : 1 four times, with a byte of 0 at each place once.
        x.due("feed 7944753 2030058033 2033844273 2033856768 0", 12);
        x.due("fault 0", 3);
        x.due("end 0", 1);
        x.due("feed 121 14848 3211264 838860800 0", 4);
        x.due("fault 0", -1);
        x.due("feed 0 0 0 0 0", 4);
        x.due("feed 0 0 0 0 -16777216", 5);
        x.due("fault 0", 4);
        x.due("feed -1 -1 -1 -1 -1", 25);
        x.about("The TAPE has its first n bytes alone");
        x.refused("end 26");
        x.refused("end -1");
        x.due("end 25", 1);
        x.due("end 4", 1);
        x.due("fault 0", -1);
        x.refused("end 5");
        x.due("end 3", 1);
        x.due("goer y:12", 0);
        x.refused("end 1");
        x.due("end 0", 1);
        x.about("more than 120");
        for (int have = 20; have <= 120; have += 20) {
            x.due("feed -1 -1 -1 -1 -1", have);
        }
        x.refused("feed 0 0 0 0 1");
        x.refused("feed -1 -1 -1 -1 -1");
        x.due("feed 0 0 0 0 0", 120);
        x.due("end 119", 1);
        x.refused("feed 257 0 0 0 0");
        x.refused("feed 1 0 0 0 1");
        x.due("feed 0 0 256 0 0", 120);
    }

    private static void textsTakeTheTape() {
        Story x = story("The TAPE (empty then; if refused it stays) is one of these: its number", "town 0", "town 11");
        x.refused("text 0");
        x.refused("text 1");
        x.due("tape y:1", 3);
        x.refused("text 1");
        x.refused("text 2");
        x.refused("text -1");
        x.due("text 0", 0);
        x.due("count 8", 0);
        x.due("fault 0", 0);
        x.refused("text 0");
        x.about("what was read ahead of it is not in it");
        x.due("tape b5a6b^", 6);
        x.due("fault 1", 5);
        x.refused("text 1");
        x.due("tape a12b9a", 6);
        x.due("fault 1", -1);
        x.refused("text 0");
        x.due("text 1", 0);
        x.due("count 8", 0);
        x.due("stage 0 0 0", 0);
        x.due("stage 0 0 1", 1);
        x.due("stage 0 0 2", 12);
        x.due("stage 0 1 0", 1);
        x.due("stage 0 1 1", 0);
        x.due("stage 0 1 2", 9);
        x.refused("stage 0 2 0");
        x.due("tape y:1;y:2;y^", 10);
        x.due("fault 0", 9);
        x.due("tape y:m=1?9;y:5", 11);
        x.due("fault 0", -1);
        x.due("text 0", 1);
        x.due("pain 1 0 dry 0 2", 5);
        x.due("pain 0 0 dry 0 2", 1);
    }

    private static void goersAndClauses() {
        Story x = story("GOERS (6 at most)");
        for (int i = 0; i < 6; i++) {
            x.due("goer y:" + (20 + i), i);
            x.due("count 8", 0);
        }
        x.say("tape y:26");
        x.due("fault 0", -1);
        x.refused("text 0");
        x.due("count 1", 6);
        x.allowed("pain 5 0 dry 0 2");
        x.refused("pain 6 0 dry 0 2");
        x = story("CLAUSES with ; between, one at least");
        fault(x, 0, "^");
        good(x, 0, "y:1");
        fault(x, 0, "y:1;^");
        good(x, 0, "y:1;y:2");
        fault(x, 0, "^;y:1");
        fault(x, 0, "y:1;^;y:2");
        fault(x, 0, "y:1^,y:2");
        StringBuilder thirty = new StringBuilder("y:1");
        while (thirty.length() < 119) {
            thirty.append(";y:1");
        }
        good(x, 0, thirty.toString());
        fault(x, 0, thirty + ";^");
        x.about("A CLAUSE that goes on with ! or ( behind its : has a CONDITION");
        fault(x, 0, "y:(u^)");
        fault(x, 0, "y:(u=1)^");
        fault(x, 0, "y:(u=1)^+1");
        fault(x, 0, "y:!u=1^");
        fault(x, 0, "y:!u+1^");
        good(x, 0, "y:(u=1)?1");
        good(x, 0, "y:!u=1?1");
        fault(x, 0, "y:1;y:(u=1)^");
    }

    private static void numbersInTexts() {
        Story x = story("a number (1 to 4 digits); a fifth digit is a FAULT");
        fault(x, 0, "y:^");
        good(x, 0, "y:0");
        good(x, 0, "y:9999");
        good(x, 0, "y:0000");
        fault(x, 0, "y:9999^9");
        fault(x, 0, "y:0000^1");
        fault(x, 0, "y:u=1234^5?1");
        fault(x, 0, "y:1234^5=u?1");
        fault(x, 0, "y:u=1?1234^5");
        fault(x, 0, "y:[1234^5]");
        fault(x, 0, "y:u+1234^5");
        fault(x, 0, "y:1+1234*1234^5");
        pain("9999", 9999);
        pain("0012", 12);
        pain("7", 7);
    }

    private static void sixWithinOneAnother() {
        Story x = story("at most six of ( [ ! within one another; a seventh of these is a FAULT");
        good(x, 0, "y:[[[[[[1]]]]]]");
        fault(x, 0, "y:[[[[[[^[1]]]]]]]");
        good(x, 0, "y:((((((u=1))))))?1");
        fault(x, 0, "y:((((((^(u=1)))))))?1");
        good(x, 0, "y:!!!!!!u=1?1");
        fault(x, 0, "y:!!!!!!^!u=1?1");
        good(x, 0, "y:!(!([[u]]=1))?1");
        fault(x, 0, "y:!(!([[^[u]]]=1))?1");
        good(x, 0, "y:!(!([[1+u]]=[[2]]))?[[[[[[3]]]]]]");
        fault(x, 0, "y:!!!(((u=^[1])))?1");
        fault(x, 0, "y:!!!(((^!u=1)))?1");
        fault(x, 0, "y:!!!!!!^(u=1)?1");
        x.about("one behind the other are not within one another");
        good(x, 0, "y:[[[[[[1]]]]]]+[[[[[[2]]]]]]");
        good(x, 0, "y:!!!u=1&!!!!!!d=1|((((((w=1))))))?1");
        good(x, 0, "y:[[[[[[1]+1]+1]+1]+1]+1]");
        fault(x, 0, "y:[[[[[[1]+[^[");
        fault(x, 0, "y:u=1?[[[[[[^[1");
        fault(x, 0, "y:[[[[[[1]]]]]]^]");
    }

    private static void blanks() {
        Story x = story("Blanks (32) may stand between all these, not within numbers");
        good(x, 0, " y : u + 1 > [ d ] & ! ( w = 1 | f < 2 ) ? 1 * 2 ; y : 3 ");
        good(x, 0, "   y   :   1   ");
        fault(x, 0, " ^");
        fault(x, 0, "y:1 ^2");
        fault(x, 0, "y:12 ^3");
        fault(x, 0, "y:1 ; ^");
        fault(x, 0, "y ^1");
        fault(x, 0, "y:^\t1");
        fault(x, 0, "y:1^\n");
        fault(x, 0, "y:1^\240");
        x.due("goer y: 10 ", 0);
        x.due("pain 0 0 dry 0 2", 10);
    }

    private static void endsTooEarly() {
        Story x = story("FAULT: the first byte at which no GOER can go on (the length, if it ends too early)");
        for (String text : new String[] {"", "y", "y:", "y:1+", "y:1*", "y:[", "y:[1", "y:u=", "y:u=1", "y:u=1&", "y:u=1|", "y:!", "y:(", "y:(u",
            "y:(u=1", "y:(u=1)", "y:u=1?", "y:1;", "y:1;y", "y:1;y:"}) {
            fault(x, 0, text + "^");
        }
        for (String marked : new String[] {"^z", "y^y", "y:^y", "y:1^y", "y:1+^)", "y:[^)", "y:[1^)", "y:u=^=", "y:u=1^=", "y:u=1&^;", "y:!^?",
            "y:(^=", "y:(u=1^]", "y:(u=1)^;", "y:u=1?^;", "y:1;y^y", "y:1^?", "y:1^!", "y:1^(", "y:u=1?1^=", "y:u=1?^(",
            "y:u=1?^!", "y:^-1", "^Y:1", "y:^U", "y:^x"}) {
            fault(x, 0, marked);
        }
    }

    private static void withinAMillion() {
        // 9999 * 100 is 999900.
        pain("9999*100+99-9999*100", 99);
        pain("9999*100+100-9999*100", 100);
        pain("9999*100+101-9999*100", 100);
        pain("0-9999*100-99+9999*100+500", 401);
        pain("0-9999*100-100+9999*100+500", 400);
        pain("0-9999*100-101+9999*100+500", 400);
        pain("999*1001/1000", 999);
        pain("1000*1000/1000", 1000);
        pain("1000*1001/1000", 1000);
        pain("[0-1000]*1000/1000+2000", 1000);
        pain("[0-1000]*1001/1000+2000", 1000);
        pain("[0-999]*1001/1000+2000", 1001);
        pain("9999*9999=1000*1000?5;y:6", 5);
        pain("1000*1000+1=1000*1000?5;y:6", 5);
        pain("999*1000=1000*1000?5;y:6", 6);
        pain("1000*1000*1000*1000/1000", 1000);
        pain("[0-1000]*1000*[0-9999]/9999", 100);
    }

    private static void cutsTowardsNought() {
        pain("7/2", 3);
        pain("8/2", 4);
        pain("1/2+5", 5);
        pain("[0-1]/2+5", 5);
        pain("[0-2]/2+5", 4);
        pain("[0-7]/2+10", 7);
        pain("7/[0-2]+10", 7);
        pain("[0-7]/[0-2]+10", 13);
        pain("7/1", 7);
        pain("7/0+5", 5);
        pain("7/[3-3]+5", 5);
        pain("0/0+5", 5);
        pain("[0-9999]/0+5", 5);
    }

    private static void worth() {
        pain("1=1?5;y:6", 5);
        pain("1=2?5;y:6", 6);
        pain("1=2?5;y:1=1?6;y:7", 6);
        pain("5;y:6", 5);
        pain("1=2?5;y:6;y:7", 6);
        // No CLAUSE holds: a WORTH of 0, and PAIN is 1 at least.
        pain("1=2?5", 1);
        pain("1=2?5;y:1=3?6", 1);
        pain("1<1?5;y:6", 6);
        pain("1<2?5;y:6", 5);
        pain("2<1?5;y:6", 6);
        pain("1>1?5;y:6", 6);
        pain("2>1?5;y:6", 5);
        pain("!1=1?5;y:6", 6);
        pain("!1=2?5;y:6", 5);
        pain("!1<2?5;y:6", 6);
        pain("!2>1?5;y:6", 6);
        pain("!!1=1?5;y:6", 5);
        pain("!!1=2?5;y:6", 6);
        pain("1=1&1<2?5;y:6", 5);
        pain("1<2&2>1?5;y:6", 5);
        pain("2>1&1=1?5;y:6", 5);
        pain("1=1&2<1?5;y:6", 6);
        pain("2<1&1=1?5;y:6", 6);
        pain("2<1|1=1?5;y:6", 5);
        pain("1=1|2<1?5;y:6", 5);
        pain("2<1|1>1?5;y:6", 6);
        pain("!1=1&1=1?5;y:6", 6);
        pain("!(1=1)&!(1=2)?5;y:6", 6);
        pain("!(1=3)&!(1=2)?5;y:6", 5);
        pain("!1=1|!1=2?5;y:6", 5);
        pain("(1=2|1=1)&1=1?5;y:6", 5);
        pain("1=1&(1=2|2=1)?5;y:6", 6);
        pain("1=1|1=1&1=2?5;y:6", 5);
        pain("1=2&1=2|1=1?5;y:6", 5);
        pain("!1=2&1=2?5;y:6", 6);
        pain("!(1=2&1=2)?5;y:6", 5);
    }

    private static void painAndItsLetters() {
        // WORTH within 1 .. 10,000
        pain("0", 1);
        pain("1", 1);
        pain("2", 2);
        pain("0-1", 1);
        pain("0-9999*9999", 1);
        pain("9999", 9999);
        pain("9999+1", 10000);
        pain("9999+2", 10000);
        pain("9999*9999", 10000);
        Story x = story("u how much higher the CELL is that it leads to (0, if it is not), d how much lower", "goer y:100+u", "goer y:100+d",
            "draw 1 0 1 0 0 1", "draw 3 0 3 0 0 99");
        x.due("pain 0 0 dry 0 2", 101);
        x.due("pain 0 0 dry 1 6", 100);
        x.due("pain 0 0 dry 0 4", 100);
        x.due("pain 1 0 dry 0 2", 100);
        x.due("pain 1 0 dry 1 6", 101);
        x.due("pain 1 0 dry 0 4", 100);
        x.due("pain 0 0 dry 2 2", 199);
        x.due("pain 1 0 dry 3 2", 199);
        x.due("pain 1 0 dry 2 2", 100);
        x.due("pain 0 0 dry 3 2", 100);
        x = story("w, f, m 1 if that has WATER, WOOD, MARSH", "goer y:100+w+2*f+4*m", "draw 1 0 1 0 1 1", "draw 3 0 3 0 2 1",
            "draw 5 0 5 0 3 1", "draw 7 0 7 0 1 1", "draw 7 0 7 0 2 1", "draw 7 0 7 0 3 1");
        int[] more = {1, 0, 2, 0, 4, 0, 7, 0};
        for (int cell = 0; cell < 8; cell++) {
            x.due("pain 0 0 dry " + cell + " 2", 100 + more[cell]);
        }
        x = story("s 1 in WET months, g the load (0 .. 99), t 1 if the STEP is SLANT", "goer y:100+s", "goer y:100+g", "goer y:100+t");
        x.due("pain 0 5 wet 60 2", 101);
        x.due("pain 0 5 dry 60 2", 100);
        x.due("pain 1 0 wet 60 2", 100);
        x.due("pain 1 1 dry 60 2", 101);
        x.due("pain 1 99 dry 60 2", 199);
        x.refused("pain 1 100 dry 60 2");
        x.refused("pain 1 -1 dry 60 2");
        for (int d = 0; d < 8; d++) {
            x.due("pain 2 0 dry 65 " + d, 100 + d % 2);
        }
    }

    // ---- ways

    private static void wayOfSeveral() {
        Story x = story("WAY: STEPS with the least PAIN together", "goer y:m=1?25;y:10", "goer y:t=1?2;y:1", "goer y:5", "draw 1 0 1 0 3 1");
        x.due("pains 0 0 dry 0 2", 20);
        x.due("way 0 0 dry 0 2 1", 13);
        x.about("of several the fewest STEPS");
        x.due("pains 1 0 dry 0 13", 2);
        x.due("way 1 0 dry 0 13 NONE", 1);
        x.due("way 1 0 dry 0 119 NONE", 11);
        x.about("of several that which has the lower direction where two first differ");
        x.due("way 2 0 dry 65 67 1", 54);
        x.due("way 2 0 dry 65 63 1", 76);
        x.due("way 2 0 dry 65 41 1", 53);
        x.due("way 2 0 dry 65 89 1", 78);
        x.due("way 2 0 dry 65 42 1", 53);
        x.due("way 2 0 dry 65 42 2", 42);
        x.due("way 2 0 dry 0 25 1", 13);
        x.due("way 2 0 dry 0 14 1", 1);
        x.about("from a CELL to itself");
        x.due("pains 2 0 dry 119 119", 0);
        x.due("way 2 0 dry 119 119 NONE", 0);
        x.due("way 2 0 dry 119 119 0", 119);
        x.refused("way 2 0 dry 119 119 1");
        x.refused("way 2 0 dry 119 119 -2");
    }

    private static void nearly() {
        Story x = story("NEARLY: no more PAIN than that and so many hundredths of it more (cut)", FLAT, "goer y:10", "goer y:50");
        // A row of 110; one SLANT STEP out and one back make it 118: 8 hundredths are 8 (of 8.8), 7 are 7 (of 7.7).
        x.due("nearly 0 0 dry 0 11 7 NONE", 12);
        x.due("nearly 0 0 dry 0 11 8 NONE", 22);
        x.due("nearly 0 0 dry 0 11 7 13", 0);
        x.due("nearly 0 0 dry 0 11 8 13", 1);
        // Two SLANT STEPS 28, a corner 34: 21 hundredths are 5 (of 5.88), 22 are 6 (of 6.16).
        x.due("nearly 0 0 dry 39 65 21 40", 0);
        x.due("nearly 0 0 dry 39 65 22 40", 1);
        x.about("hundredths 0 .. 100");
        x.due("nearly 0 0 dry 0 11 0 NONE", 12);
        x.due("nearly 1 0 dry 60 61 99 NONE", 2);
        x.due("nearly 1 0 dry 60 61 100 NONE", 2 + 4);
        x.refused("nearly 0 0 dry 0 11 101 NONE");
        x.refused("nearly 0 0 dry 0 11 -1 NONE");
        x.about("a CELL may be in one twice");
        x.due("nearly 1 0 dry 60 62 99 63", 0);
        x.due("nearly 1 0 dry 60 62 100 63", 1);
        x.due("nearly 1 0 dry 60 62 100 64", 0);
        x.due("nearly 2 0 dry 7 7 100 NONE", 1);
        x.due("nearly 2 0 dry 7 7 100 7", 1);
        x.due("nearly 2 0 dry 7 7 100 8", 0);
    }

    // ---- sights

    private static void seesByTheLine() {
        Story x = story("has no more HEIGHT than the line there", "draw 0 0 0 0 0 10", "draw 1 0 1 0 0 5");
        x.due("sees 0 2", 1);
        x.due("sees 2 0", 1);
        x.say("draw 1 0 1 0 0 6");
        x.due("sees 0 2", 0);
        x.due("sees 2 0", 0);
        // A line from 10 to 0 by three: 6 and two thirds, 3 and one third.
        x.due("sees 0 3", 1);
        x.say("draw 1 0 1 0 0 7");
        x.due("sees 0 3", 0);
        x.say("draw 1 0 1 0 0 6");
        x.say("draw 2 0 2 0 0 3");
        x.due("sees 0 3", 1);
        x.due("sees 3 0", 1);
        x.say("draw 2 0 2 0 0 4");
        x.due("sees 0 3", 0);
        x.due("sees 3 0", 0);
        x.about("for each i, 1 .. n less 1: the two ends do not hide one another");
        x.say("draw 4 4 4 4 0 99");
        x.due("sees 52 53", 1);
        x.due("sees 53 52", 1);
        x.due("sees 52 54", 1);
        x.due("sees 51 53", 0);
        x.about("a CELL SEES another one (unlike)");
        x.refused("sees 52 52");
        x.refused("sees 0 0");
        x.refused("sees 119 119");
        x.due("sees 119 118", 1);
        x.refused("sees 119 120");
        x.refused("sees -1 0");
    }

    private static void toTheNearest() {
        Story x = story("to the nearest, a half to the greater number", "draw 1 1 1 1 0 9");
        // Of 0, 0 and 2, 1 the middle is 1, a half: 1, 1.
        x.due("sees 0 14", 0);
        x.due("sees 14 0", 0);
        x.due("sees 12 2", 0);
        x.due("sees 2 12", 0);
        x.due("sees 12 14", 0);
        x.due("sees 0 2", 1);
        // Of 0, 0 and 1, 2 the middle is a half, 1.
        x.due("sees 0 25", 0);
        x.due("sees 25 0", 0);
        x.due("sees 1 24", 0);
        x.due("sees 24 1", 0);
        x.due("sees 2 25", 1);
        // By thirds and by quarters: 0, 0 to 3, 1 goes by 1, 0 and 2, 1; 0, 0 to 4, 1 by 1, 0 and 2, 1 and 3, 1.
        x.due("lineOfSight 0 15 0", 0);
        x.due("line 0 1", 1);
        x.due("line 0 2", 14);
        x.due("lineOfSight 0 16 0", 1);
        x.due("line 1 1", 1);
        x.due("line 1 2", 14);
        x.due("line 1 3", 15);
        x.due("lineOfSight 12 4 0", 2);
        x.due("line 2 1", 13);
        x.due("line 2 2", 14);
        x.due("line 2 3", 3);
        x.due("lineOfSight 16 0 0", 3);
        x.due("line 3 1", 15);
        x.due("line 3 2", 14);
        x.due("line 3 3", 1);
    }

    private static void sights() {
        Story x = story("SIGHTS, so FAR at most (n, 1 .. 11)");
        x.due("sights 0 11 11 NONE", 1);
        x.due("sights 0 11 10 NONE", 2);
        x.due("sights 0 11 1 NONE", 11);
        x.due("sights 0 119 11 NONE", 1);
        x.due("sights 0 108 9 NONE", 1);
        x.due("sights 0 108 8 NONE", 2);
        x.due("sights 0 109 9 NONE", 1);
        x.due("sights 0 65 5 NONE", 1);
        x.due("sights 0 65 4 NONE", 2);
        x.refused("sights 0 11 0 NONE");
        x.refused("sights 0 11 12 NONE");
        x.refused("sights 0 0 0 NONE");
        x.refused("sights 0 0 12 0");
        x.about("0 if they are one");
        x.due("sights 77 77 1 NONE", 0);
        x.due("sights 77 77 11 0", 77);
        x.refused("sights 77 77 11 1");
        x.about("the i-th CELL (0: from)");
        x.due("sights 0 11 10 0", 0);
        x.due("sights 0 11 10 2", 11);
        x.refused("sights 0 11 10 3");
        x.refused("sights 0 11 10 -2");
        x.about("there is always a row: CELLS beside one another see each other");
        for (int column = 1; column < 12; column += 2) {
            x.say("draw " + column + " 0 " + column + " 9 0 99");
        }
        x.due("sights 0 11 1 NONE", 11);
        x.due("sights 0 10 11 NONE", 3);
        x.due("sights 0 10 11 1", 1);
        x.due("sights 0 10 11 2", 9);
    }

    private static void sightsOfSeveral() {
        Story x = story("of several rows of hops that with the lower CELL where two first differ");
        x.due("sights 0 11 10 1", 1);
        x.due("sights 11 0 10 1", 1);
        x.due("sights 60 62 1 1", 49);
        x.due("sights 0 11 5 1", 1);
        x.due("sights 0 11 5 2", 6);
        x.due("sights 11 0 5 1", 6);
        x.due("sights 11 0 5 2", 1);
    }

    // ---- lines

    private static void lines() {
        Story x = story("LINES (10 at most)", FLAT);
        for (int i = 0; i < 9; i++) {
            x.due(i % 4 == 0 ? "lineOfWay 0 0 dry 0 5" : i % 4 == 1 ? "lineOfSight 0 5 3" : i % 4 == 2 ? "lineOfSight 0 5 0" : "lineAt 0", i);
        }
        x.allowed("lineOfWay 0 0 dry 0 5");
        x.allowed("lineOfSight 0 5 3");
        x.allowed("lineOfSight 0 5 0");
        x.due("lineAt 0", 9);
        x.refused("lineOfWay 0 0 dry 0 5");
        x.refused("lineOfSight 0 5 3");
        x.refused("lineOfSight 0 5 0");
        x.refused("lineAt 0");
        x.due("line 9 NONE", 1);
        x.refused("line 10 NONE");
        x.refused("line -1 NONE");
        x.about("The latest LINE goes on, by hand CELL by CELL, to 60");
        for (int n = 2; n <= 60; n++) {
            x.due("goOn " + (n % 2 == 0 ? 4 : 0), n);
        }
        x.refused("goOn 4");
        x.refused("goOn 0");
        x.due("line 9 59", 12);
        x.refused("line 9 60");
        x.due("line 8 NONE", 6);
        x = story("The latest LINE goes on: there is none", FLAT);
        for (int d = -1; d <= 8; d++) {
            x.refused("goOn " + d);
        }
        x = story("STRAIGHT (one hop, whatever is seen)", "draw 5 0 5 9 0 99");
        x.due("sees 0 11", 0);
        x.due("lineOfSight 0 11 0", 0);
        x.due("line 0 NONE", 12);
        x.due("line 0 5", 5);
        x.due("lineOfSight 0 11 1", 1);
        x.due("line 1 NONE", 12);
        x.due("lineOfSight 7 7 0", 2);
        x.due("line 2 NONE", 1);
        x.due("lineOfSight 7 7 1", 3);
        x.due("line 3 NONE", 1);
        x.refused("lineOfSight 0 11 12");
        x.refused("lineOfSight 0 11 -1");
    }

    private static void noneTwiceBehindItself() {
        Story x = story("all CELLS on the line of each hop, ends too, none twice behind itself");
        x.due("sights 0 11 5 NONE", 3);
        x.due("lineOfSight 0 11 5", 0);
        x.due("line 0 NONE", 12);
        for (int i = 0; i < 12; i++) {
            x.due("line 0 " + i, i);
        }
        x.refused("line 0 12");
        x.due("lineOfSight 0 108 4", 1);
        x.due("line 1 0", 0);
        x.due("line 1 NONE", 10);
        x.due("line 1 9", 108);
        x.about("by hand a CELL may be in it twice, but not behind itself");
        x.say("lineAt 5");
        x.say("goOn 2");
        x.say("goOn 6");
        x.due("line 2 0", 5);
        x.due("line 2 1", 6);
        x.due("line 2 2", 5);
    }

    /** A LINE by hand from a CELL through directions: MILES, TURNS, RUN. */
    private static void line(String directions, int miles, int turns, int run) {
        Story x = story("MILES, TURNS, RUN of " + directions, "lineAt 63");
        for (int i = 0; i < directions.length(); i++) {
            x.due("goOn " + directions.charAt(i), i + 2);
        }
        x.due("about 0 0", miles);
        x.due("about 0 1", turns);
        x.due("about 0 2", run);
        x.refused("about 0 3");
        x.refused("about 0 -1");
        x.refused("about 1 0");
        x.refused("about -1 0");
    }

    private static void milesTurnsRun() {
        line("", 0, 0, 0);
        line("2", 1, 0, 1);
        line("1", 1, 0, 1);
        line("22", 2, 0, 2);
        line("11", 2, 0, 2);
        line("21", 2, 1, 1);
        line("111", 4, 0, 3);
        line("1111", 5, 0, 4);
        line("11113", 7, 1, 4);
        line("111132", 8, 2, 4);
        line("26", 2, 1, 1);
        line("2622", 4, 2, 2);
        line("2226622", 7, 2, 3);
        line("22666", 5, 1, 3);
        line("2222222", 7, 0, 7);
    }

    // ---- finds and known roads

    private static void finds() {
        Story x = story("FINDS (30 at most): a sort (0 .. 3), a WEIGHT (1 .. 9)", "lineAt 0");
        x.due("find 0 0 1", 0);
        x.due("find 0 3 9", 1);
        x.due("near 0 0 1", 1);
        x.due("near 0 0 8", 9);
        x.refused("find 0 4 1");
        x.refused("find 0 -1 1");
        x.refused("find 0 0 0");
        x.refused("find 0 0 10");
        x.refused("find -1 0 1");
        x.refused("find 120 0 1");
        for (int i = 2; i < 29; i++) {
            x.due("find 119 1 9", i);
        }
        x.due("find 0 1 9", 29);
        x.due("near 0 0 2", 9);
        x.refused("find 0 1 9");
        x.refused("find 119 0 1");
        x.due("count 4", 30);
    }

    private static void near() {
        Story x = story("NEAR of a LINE by so far (0 .. 5), the greater one of x and y", "lineAt 62", "goOn 2");
        // The LINE is at 2, 5 and 3, 5; each FIND is one farther than the one ahead, the other way too.
        int[] cells = {63, 64 - 12, 65 + 24, 66 + 36, 67 - 48, 68 + 48, 69 - 60};
        int[] weights = {1, 2, 3, 4, 5, 6, 7};
        for (int i = 0; i < cells.length; i++) {
            x.due("find " + cells[i] + " " + i % 4 + " " + weights[i], i);
        }
        int[] sums = {1, 3, 6, 10, 15, 21};
        for (int far = 0; far <= 5; far++) {
            x.due("near 0 " + far + " 15", sums[far]);
        }
        x.refused("near 0 6 15");
        x.refused("near 0 -1 15");
        x.about("FINDS of sorts told as bits");
        x.due("near 0 5 0", 0);
        x.due("near 0 5 1", 1 + 5);
        x.due("near 0 5 2", 2 + 6);
        x.due("near 0 5 4", 3);
        x.due("near 0 5 8", 4);
        x.due("near 0 5 5", 9);
        x.refused("near 0 5 16");
        x.refused("near 0 5 -1");
        x.about("from some CELL of it: a FIND counts once");
        x.say("goOn 6");
        x.due("near 0 1 15", 3);
    }

    private static void against() {
        Story x = story("moved by so much in x and y, -3 .. 3 each, not 0 both, all of them in the LAND", "lineAt 0", "lineAt 119", "lineAt 39",
            "lineAt 38", "lineAt 26", "lineAt 80", "lineAt 81", "lineAt 66", "lineOfSight 0 11 0", "lineOfSight 0 119 0");
        x.due("against 0 0 15 1", 4 * 4 - 1);
        x.due("against 1 0 15 1", 4 * 4 - 1);
        x.due("against 2 0 15 1", 7 * 7 - 1);
        x.due("against 3 0 15 1", 6 * 7 - 1);
        x.due("against 4 0 15 1", 6 * 6 - 1);
        x.due("against 5 0 15 1", 7 * 7 - 1);
        x.due("against 6 0 15 1", 6 * 7 - 1);
        x.due("against 7 0 15 1", 7 * 7 - 1);
        x.due("against 8 0 15 1", 3);
        x.due("against 9 0 15 1", 0);
        x.due("against 9 0 15 0", 0);
        x.about("how many are NEAR as much or more");
        x.due("against 0 0 15 0", 15);
        x.say("find 0 1 5");
        x.due("against 0 0 15 0", 0);
        x.say("find 3 1 4");
        x.due("against 0 0 15 0", 0);
        x.say("find 36 2 5");
        x.due("against 0 0 15 0", 1);
        x.due("against 0 0 2 0", 0);
        x.say("find 39 1 6");
        x.due("against 0 0 15 0", 2);
        x.say("find 4 1 9");
        x.say("find 48 1 9");
        x.due("against 0 0 15 0", 2);
        x.refused("against 0 0 15 2");
        x.refused("against 0 0 15 -1");
        x.refused("against 0 6 15 0");
        x.refused("against 0 -1 15 0");
        x.refused("against 0 0 16 0");
        x.refused("against 0 0 -1 0");
        x.refused("against 10 0 15 1");
    }

    private static void known() {
        Story x = story("KNOWN roads (6 at most) are LINES told so", FLAT, "lineAt 0", "lineAt 1", "lineAt 2", "lineAt 3", "lineAt 4",
            "lineAt 5", "lineAt 6");
        for (int i = 0; i < 5; i++) {
            x.due("known " + i, i + 1);
            x.refused("known " + i);
        }
        x.allowed("known 6");
        x.due("known 5", 6);
        x.refused("known 6");
        x.refused("known 5");
        x.refused("known 7");
        x.due("count 5", 6);
        x.due("miss 0 0 dry 5", 0);
        x.refused("miss 0 0 dry 6");
        x.refused("miss 0 0 dry -1");
        x = story("MISS: CELLS of its WAY that are not on the road or beside it (in one of eight directions)", "goer y:1", "goer y:m=1?90;y:10+4*t",
            "lineAt 62", "goOn 1", "goOn 1", "goOn 3", "goOn 3", "known 0", "lineAt 62", "goOn 1", "goOn 1", "goOn 1", "goOn 3", "goOn 3", "goOn 3", "known 1",
            "lineAt 62", "goOn 1", "goOn 1", "goOn 1", "goOn 1", "goOn 3", "goOn 3", "goOn 3", "goOn 3", "known 2");
        // By 1 for each STEP the road itself is the WAY, as it has the lower directions.
        x.due("miss 0 0 dry 0", 0);
        x.due("miss 0 0 dry 2", 0);
        // The other one goes along the row: all CELLS are beside the road but those in the middle.
        x.due("miss 1 0 dry 0", 0);
        x.due("miss 1 0 dry 1", 1);
        x.due("miss 1 0 dry 2", 3);
        x.about("a road of one CELL; its ends alike");
        x.say("lineAt 62");
        x.say("goOn 2");
        x.say("goOn 6");
        x.say("known 3");
        x.due("miss 1 0 dry 3", 0);
    }

    private static void bestAndTried() {
        Story x = story("BEST: the GOER with the least FIT (of several the lowest)", "goer y:10+4*t+900*m", "goer y:10+4*t", "goer y:20+8*t",
            "draw 5 0 5 8 3 1", "lineOfWay 0 0 dry 0 11", "lineOfWay 1 0 dry 0 11", "lineOfWay 1 0 dry 24 35");
        x.due("best 0 dry 0", 0);
        x.due("best 0 dry 1", 0);
        x.refused("tried 0 dry");
        x.due("known 1", 1);
        x.due("best 0 dry 0", 1);
        x.due("best 0 dry 1", 0);
        x.about("TRIED (told with two or more)");
        x.refused("tried 0 dry");
        x.due("known 2", 2);
        x.due("best 99 wet 0", 1);
        x.due("tried 0 dry", 0);
        x.due("known 0", 3);
        // The first GOER misses much of two rows, the others miss six CELLS of the road round the MARSH.
        x.due("miss 1 0 dry 2", 6);
        x.due("best 0 dry 0", 1);
        x.due("best 0 dry 1", 6);
        x.due("tried 0 dry", 6);
        x = story("TRIED: for each KNOWN road the BEST by all others alone, its MISS on this; together", "goer y:10+4*t+900*m", "goer y:10+4*t",
            "draw 5 0 5 8 3 1", "lineOfWay 0 0 dry 0 11", "lineOfWay 1 0 dry 0 11", "known 0", "known 1");
        // Each road by the GOER of the other one.
        x.due("miss 1 0 dry 0", 6);
        x.due("miss 0 0 dry 1", 15);
        x.due("tried 0 dry", 21);
        x.due("best 0 dry 0", 1);
        x.due("best 0 dry 1", 6);
        x.refused("best 100 dry 0");
        x.refused("best -1 dry 0");
        x.refused("best 0 dry 2");
        x.refused("best 0 dry -1");
        x.refused("tried 100 dry");
        x.refused("tried -1 dry");
    }

    // ---- books

    private static void books() {
        Story x = story("BOOKS (4 at most): a TOWN (its letter, of those there are)", FLAT);
        fault(x, 1, "^a1a");
        x.say("town 0");
        good(x, 1, "a1a");
        fault(x, 1, "^b1a");
        fault(x, 1, "a1^b");
        x.say("town 11");
        good(x, 1, "a1b");
        fault(x, 1, "a1^c");
        fault(x, 1, "^A1b");
        fault(x, 1, "^`1b");
        x.about("MILES (one or two digits), a third digit is wrong");
        fault(x, 1, "a^b");
        good(x, 1, "a0b");
        good(x, 1, "a00b");
        good(x, 1, "a99b");
        fault(x, 1, "a00^0b");
        fault(x, 1, "a12^3b");
        fault(x, 1, "a1b99^9a");
        x.about("one at least of MILES and a TOWN is needed (the length, if it ends too early)");
        fault(x, 1, "^");
        fault(x, 1, "a^");
        fault(x, 1, "a1^");
        fault(x, 1, "a12^");
        fault(x, 1, "a1b2^");
        fault(x, 1, "a1b^b");
        fault(x, 1, "a1b^;");
        for (int i = 0; i < 4; i++) {
            x.due("book a" + i + "b", i);
        }
        x.say("tape a4b");
        x.due("fault 1", -1);
        x.refused("text 1");
        x.due("count 2", 4);
        x.due("stage 3 0 2", 3);
        x.refused("stage 4 0 2");
        x.refused("fault 2", -2);
        x.refused("fault -1", -2);
        x.refused("text 2");
        x.refused("text -1");
    }

    private static void blanksInBooks() {
        Story x = story("Blanks may stand between all these, not within numbers; one or more behind MILES need not be", "town 0", "town 11");
        good(x, 1, "a1b2a");
        good(x, 1, "a 1b 2a");
        good(x, 1, "a1 b2 a");
        good(x, 1, "  a   1   b   22   a  ");
        fault(x, 1, " ^");
        fault(x, 1, "a1 ^2b");
        fault(x, 1, "a1b 2 ^");
        fault(x, 1, "a12 ^3b");
        fault(x, 1, "a^\t1b");
        fault(x, 1, "a1^\nb");
        StringBuilder most = new StringBuilder("a");
        while (most.length() < 119) {
            most.append("1b");
        }
        fault(x, 1, most + "1^");
        good(x, 1, most + " ");
        x.due("text 1", 0);
        x.about("STAGES are numbered 0 ..");
        x.due("stage 0 58 1", 1);
        x.due("stage 0 58 2", 1);
        x.refused("stage 0 59 2");
        x.refused("stage 0 -1 2");
    }

    private static void stages() {
        Story x = story("OFF is how many MILES more it tells (two TOWNS alike: 0 of these)", FLAT, "town 0", "town 11", "town 13",
            "book a11b12a10b0a5a0b99c01a2a");
        int[] off = {0, 1, -1, -11, 5, -11, 99 - 10, 0, 2};
        for (int s = 0; s < off.length; s++) {
            x.due("off 0 " + s + " 0 0 dry", off[s]);
        }
        x.refused("off 0 9 0 0 dry");
        x.refused("off 0 -1 0 0 dry");
        x.refused("off 1 0 0 0 dry");
        x.refused("off 0 0 1 0 dry");
        x.refused("off 0 0 0 100 dry");
        int[][] told = {{0, 1, 11}, {1, 0, 12}, {0, 1, 10}, {1, 0, 0}, {0, 0, 5}, {0, 1, 0}, {1, 2, 99}, {2, 0, 1}, {0, 0, 2}};
        for (int s = 0; s < told.length; s++) {
            for (int what = 0; what < 3; what++) {
                x.due("stage 0 " + s + " " + what, told[s][what]);
            }
        }
        x.refused("stage 0 0 3");
        x.refused("stage 0 0 -1");
    }

    private static void slips() {
        // From a to b are 11 MILES, from a to c 14, from a to d 5.
        Story x = story("SLIP, if it is OFF by more than so much either way", FLAT, "town 0", "town 11", "town 119", "town 5",
            "book a31b10a12b11a");
        x.due("slip 0 0 0 0 dry 20", 0);
        x.due("slip 0 0 0 0 dry 19", 2);
        x.due("slip 0 1 0 0 dry 1", 0);
        x.due("slip 0 1 0 0 dry 0", 2);
        x.due("slip 0 2 0 0 dry 1", 0);
        x.due("slip 0 2 0 0 dry 0", 2);
        x.due("slip 0 3 0 0 dry 0", 0);
        x.refused("slip 0 0 0 0 dry 21");
        x.refused("slip 0 0 0 0 dry -1");
        x.about("1 two digits changed about, 2 one digit of two alone is another one, 3 something else");
        x.due("book a41c44a15c23a40c04a14c99a", 1);
        int[] slips = {1, 2, 2, 3, 3, 2, 0, 3};
        for (int s = 0; s < slips.length; s++) {
            x.due("slip 1 " + s + " 0 0 dry 0", slips[s]);
        }
        x.about("one digit with 0 ahead");
        x.due("book a50d5a05d0a9d15a95d51a66d", 2);
        slips = new int[] {1, 0, 0, 2, 2, 2, 2, 3, 3};
        for (int s = 0; s < slips.length; s++) {
            x.due("slip 2 " + s + " 0 0 dry 0", slips[s]);
        }
        x.about("two TOWNS alike: 0 MILES");
        x.due("book a0a1a10a11a", 3);
        slips = new int[] {0, 2, 2, 3};
        for (int s = 0; s < slips.length; s++) {
            x.due("slip 3 " + s + " 0 0 dry 0", slips[s]);
        }
        // A LAND that leads down by one: 99 MILES in a row, and 100 with three SLANT STEPS.
        ninetyNine(0, 99, "99", 0, 0);
        ninetyNine(0, 99, "98", 0, 2);
        ninetyNine(0, 99, "90", 0, 2);
        ninetyNine(0, 99, "0", 0, 3);
        ninetyNine(3, 100, "99", 1, 0);
        ninetyNine(3, 100, "99", 0, 3);
        ninetyNine(3, 100, "0", 0, 3);
        ninetyNine(3, 100, "10", 0, 3);
        ninetyNine(3, 100, "1", 20, 3);
    }

    private static void ninetyNine(int slantSteps, int miles, String told, int by, int slip) {
        Story x = story("True MILES above 99: 3", "goer y:d=1?1;y:9999");
        int made = 0;
        for (int y = 0; y < 10 && made < 100; y++) {
            int wide = y < slantSteps ? 11 : 12;
            for (int i = 0; i < wide && made < 100; i++) {
                int column = y % 2 == 0 ? i : 11 - i;
                x.say("draw " + column + " " + y + " " + column + " " + y + " 0 " + (99 - made));
                if (made == 0 || made == 99) {
                    x.say("town " + (12 * y + column));
                }
                made++;
            }
        }
        x.due("book a" + told + "b", 0);
        x.due("off 0 0 0 0 dry", Integer.parseInt(told) - miles);
        x.due("slip 0 0 0 0 dry " + by, slip);
    }

    /** All that can be told for all true MILES, 0 .. 99, by a LAND that leads down by one. */
    private static void allSlips() {
        for (int miles = 0; miles < 100; miles++) {
            for (int first = 0; first < 100; first += 50) {
                Story x = story("SLIP for " + miles + " MILES", "goer y:d=1?1;y:9999");
                for (int k = 0; k < 100; k++) {
                    int column = k / 12 % 2 == 0 ? k % 12 : 11 - k % 12;
                    x.say("draw " + column + " " + k / 12 + " " + column + " " + k / 12 + " 0 " + (99 - k));
                    if (k == 0 || k == miles) {
                        x.say("town " + (k / 12 * 12 + column));
                    }
                }
                char to = miles == 0 ? 'a' : 'b';
                for (int told = first; told < first + 50; told += 17) {
                    StringBuilder book = new StringBuilder("book a");
                    for (int t = told; t < told + 17 && t < first + 50; t++) {
                        book.append(t).append(to).append("0a");
                    }
                    x.due(book.toString(), (told - first) / 17);
                }
                for (int t = first; t < first + 50; t++) {
                    int at = t - first;
                    x.due("slip " + at / 17 + " " + at % 17 * 2 + " 0 0 dry 0", slip(t, miles));
                }
            }
        }
    }

    private static int slip(int told, int miles) {
        String one = (told < 10 ? "0" : "") + told;
        String other = (miles < 10 ? "0" : "") + miles;
        if (told == miles) {
            return 0;
        }
        if (new StringBuilder(one).reverse().toString().equals(other)) {
            return 1;
        }
        return one.charAt(0) == other.charAt(0) || one.charAt(1) == other.charAt(1) ? 2 : 3;
    }

    private static void holds() {
        Story x = story("HOLDS: how many STAGES are no SLIPS, without load, not WET", FLAT, "goer y:!g=0?1;y:s=1?1;y:10+4*t+900*m",
            "town 0", "town 11", "book a11b12a9b8a31b32a");
        int[] holds = {1, 2, 3, 4};
        for (int by = 0; by < 4; by++) {
            x.due("holds 0 0 " + by, holds[by]);
        }
        x.due("holds 0 0 19", 4);
        x.due("holds 0 0 20", 5);
        x.refused("holds 0 0 21");
        x.refused("holds 0 0 -1");
        x.refused("holds 1 0 0");
        x.refused("holds 0 2 0");
        x.say("draw 5 0 5 8 3 1");
        x.due("off 0 5 1 0 dry", 32 - 22);
        x.due("holds 0 1 10", 2 + 1);
        x.due("holds 0 1 9", 1);
    }

    // ---- worlds

    private static void weights() {
        Story x = story("weights (0 .. 9 each; 1 at first)", FLAT, "goer y:10", "town 0", "town 11");
        x.due("evidence 0 0 1", 1);
        x.due("evidence 1 0 1", 1);
        x.due("weigh 0 9", 1);
        x.due("evidence 0 0 1", 9);
        x.due("evidence 1 0 1", 1);
        x.refused("weigh 0 10");
        x.refused("weigh 0 -1");
        x.refused("weigh 2 1");
        x.refused("weigh -1 1");
        x.due("weigh 0 0", 1);
        x.due("evidence 0 0 1", 0);
        x.due("weigh 0 1", 1);
        x.due("evidence 0 0 1", 1);
        x.refused("evidence 0 0 0");
        x.refused("evidence 0 1 1");
        x.refused("evidence 0 0 2");
        x.refused("evidence 0 -1 1");
        x.refused("evidence 2 0 1");
    }

    private static void evidence() {
        Story x = story("LIKELY FINDS that are on its WAY or beside it", FLAT, "town 60", "town 65", "weigh 0 2");
        x.due("evidence 0 0 1", 2);
        x.say("find 62 1 3");
        x.due("evidence 0 0 1", 2 * 4);
        x.say("find 51 1 5");
        x.due("evidence 0 0 1", 2 * 9);
        x.say("find 39 1 9");
        x.say("find 67 1 9");
        x.due("evidence 0 0 1", 2 * 9);
        x.say("find 78 1 1");
        x.due("evidence 0 0 1", 2 * 10);
        x.say("find 62 2 9");
        x.say("find 62 3 9");
        x.due("evidence 0 0 1", 2 * 10);
        x.about("0, if some SURE FIND is not");
        x.say("find 60 0 9");
        x.say("find 54 0 9");
        x.due("evidence 0 0 1", 2 * 10);
        x.say("find 67 0 1");
        x.due("evidence 0 0 1", 0);
        x.due("odds 0 1 NONE", 0);
    }

    private static void odds() {
        Story light = story("without load, not WET", "goer y:!g=0?1;y:s=1?1;y:10+4*t+900*m", "town 60", "town 64", "draw 2 5 2 5 3 1",
            "find 26 1 4", "find 62 1 2");
        light.due("way 0 1 dry 60 64 2", 38);
        light.due("way 0 0 wet 60 64 2", 38);
        light.due("way 0 0 dry 60 64 2", 50);
        light.due("evidence 0 0 1", 3);
        light.due("odds 0 1 38", 0);
        light.due("odds 0 1 50", 3);
        light.due("odds 0 1 NONE", 3);
        Story x = story("ODDS of a CELL: the EVIDENCE of WORLDS whose WAY has it; ALL: of all", FLAT, "goer y:10+4*t+90*m", "goer y:g+s>0?9;y:10",
            "town 60", "town 64", "draw 2 5 2 5 3 1", "weigh 0 3", "weigh 1 5", "weigh 2 0");
        x.due("odds 0 1 NONE", 8);
        x.due("odds 0 1 62", 3);
        x.due("odds 0 1 50", 5);
        x.due("odds 0 1 60", 8);
        x.due("odds 0 1 64", 8);
        x.due("odds 0 1 65", 0);
        x.due("odds 0 1 74", 0);
        x.due("odds 0 1 0", 0);
        x.due("odds 0 1 119", 0);
        x.refused("odds 0 1 120");
        x.refused("odds 0 1 -2");
        x.refused("odds 0 0 NONE");
        x.refused("odds 0 2 NONE");
        x.refused("odds -1 1 NONE");
    }

    private static void pits() {
        Story x = story("PITS (6 at most)", FLAT, "town 0", "town 11");
        for (int i = 0; i < 6; i++) {
            x.refused("pit 120");
            x.refused("pit -1");
            x.due("pit " + (i == 5 ? 119 : i), i);
        }
        x.refused("pit 6");
        x.refused("pit 119");
        x.due("count 6", 6);
        x.about("DIG so many at most (0 .. 6)");
        x.due("dig 0 1 0", 0);
        x.due("dig 0 1 6", 0);
        x.refused("dig 0 1 7");
        x.refused("dig 0 1 -1");
        x.refused("dig 0 0 1");
        x.refused("dig 0 2 1");
    }

    private static void partedOfSeveral() {
        // Three WORLDS from 0 to 11: along the row, off it by the MARSH, off it by the WOOD.
        Story x = story("the PITS with the least PARTED; of several the fewest, then that with the lower PIT where two first differ", FLAT,
            "goer y:10+4*t+90*m", "goer y:10+4*t+90*f", "town 0", "town 11", "draw 2 0 3 0 3 1", "draw 8 0 9 0 2 1");
        x.due("dig 0 1 6", 0);
        x.due("pit 5", 0);
        x.due("dig 0 1 6", 0);
        x.due("pit 9", 1);
        x.due("pit 8", 2);
        x.due("pit 2", 3);
        x.due("pit 3", 4);
        x.due("pit 2", 5);
        // 3 alike 9; one apart 4 + 1; all apart 3.
        x.due("dig 0 1 0", 0);
        x.due("dig 0 1 1", 2);
        x.due("dig 0 1 2", 2 | 8);
        x.due("dig 0 1 6", 2 | 8);
        x.due("weigh 1 0", 1);
        x.due("dig 0 1 6", 2);
        x.due("weigh 1 1", 1);
        x.due("weigh 2 0", 1);
        x.due("dig 0 1 6", 8);
        x.due("weigh 1 0", 1);
        x.due("dig 0 1 6", 0);
        x.due("weigh 0 0", 1);
        x.due("dig 0 1 6", 0);
        // 2 and 4 and 5: by the MARSH 16 + 49, by the WOOD 25 + 36, by both 4 + 16 + 25.
        x.due("weigh 0 2", 1);
        x.due("weigh 1 4", 1);
        x.due("weigh 2 5", 1);
        x.due("dig 0 1 1", 2);
        x.due("dig 0 1 2", 2 | 8);
        x.due("weigh 1 5", 1);
        x.due("weigh 2 4", 1);
        x.due("dig 0 1 1", 8);
        x = story("the first PIT parts", FLAT, "goer y:10+4*t+90*m", "goer y:10+4*t+90*f", "town 0", "town 11", "draw 2 0 3 0 3 1",
            "draw 8 0 9 0 2 1");
        x.due("pit 2", 0);
        x.due("dig 0 1 0", 0);
        x.due("dig 0 1 1", 1);
        x.due("dig 0 1 6", 1);
        x.due("pit 8", 1);
        x.due("dig 0 1 1", 1);
        x.due("dig 0 1 2", 3);
        x.due("pit 2", 2);
        x.due("dig 0 1 1", 1);
        x.due("dig 0 1 3", 3);
        x.due("weigh 1 0", 1);
        x.due("dig 0 1 3", 2);
    }

    // ---- fields and hedges

    private static void fields() {
        Story x = story("FIELDS (8 at most): from x, y to x2, y2 (no less)", "lineAt 0");
        x.due("field 0 0 0 0", 0);
        x.due("field 11 9 11 9", 1);
        x.due("field 0 0 11 9", 2);
        x.refused("field 1 0 0 0");
        x.refused("field 0 1 0 0");
        x.refused("field 0 0 12 9");
        x.refused("field 0 0 11 10");
        x.refused("field -1 0 11 9");
        x.refused("field 0 -1 11 9");
        x.refused("field 12 9 12 9");
        x.refused("field 11 10 11 10");
        for (int i = 3; i < 8; i++) {
            x.due("field 1 1 3 3", i);
        }
        x.refused("field 1 1 3 3");
        x.refused("field 0 0 0 0");
        x.due("count 7", 8);
        x.due("meets 0 7", 0);
        x.refused("meets 0 8");
        x.refused("meets 0 -1");
        x.refused("meets 1 0");
        x.refused("meets -1 0");
    }

    /** What a LINE by hand and the FIELD from 3, 3 to 6, 6 have with one another. */
    private static void meets(int cell, String directions, int due) {
        Story x = story("CUTS (1), FOLLOWS (2), from " + cell + " by " + directions, "field 3 3 6 6", "lineAt " + cell);
        for (int i = 0; i < directions.length(); i++) {
            x.say("goOn " + directions.charAt(i));
        }
        x.due("meets 0 0", due);
    }

    private static void cutsAndFollows() {
        int corner = 39;
        meets(corner, "", 0);
        meets(corner, "2", 0);
        meets(corner, "22", 2);
        meets(corner, "222", 2);
        meets(corner - 1, "22", 0);
        meets(corner - 1, "222", 2);
        meets(corner - 13, "3", 0);
        meets(corner - 12, "22", 0);
        meets(corner + 13, "", 1);
        meets(corner, "3", 1);
        meets(corner, "322", 1);
        meets(corner, "332", 1);
        meets(corner, "22345", 2);
        meets(corner, "225", 3);
        meets(corner, "2344", 1);
        meets(corner + 1, "64", 2);
        meets(corner + 1, "5", 0);
        meets(corner, "26", 2);
        meets(corner, "1", 0);
        meets(corner, "213", 0);
        meets(corner, "2133", 0);
        meets(78, "", 0);
        meets(78, "66", 2);
        meets(78, "76", 1);
        meets(65, "", 1);
        meets(66, "00", 2);
        meets(67, "006", 0);
        Story x = story("a FIELD that is all rim: none of it is within");
        x.say("field 2 2 9 3");
        x.say("field 4 0 4 9");
        x.say("field 2 2 4 4");
        x.say("lineOfSight 26 33 0");
        x.say("lineOfSight 4 112 0");
        x.say("lineAt 39");
        x.due("meets 0 0", 2);
        x.due("meets 0 1", 0);
        x.due("meets 1 0", 0);
        x.due("meets 1 1", 2);
        x.due("meets 1 2", 2);
        x.due("meets 2 0", 0);
        x.due("meets 2 2", 1);
        x.about("the rim of the LAND is the rim of a FIELD that reaches so far");
        x.say("field 0 0 11 9");
        x.due("meets 0 3", 1);
        x.say("lineOfSight 0 11 0");
        x.due("meets 3 3", 2);
    }

    private static void older() {
        Story x = story("OLDER: how many FIELDS it CUTS, less how many it FOLLOWS and does not CUT", "lineAt 39", "goOn 2", "goOn 2");
        x.due("older 0", 0);
        x.say("field 3 3 6 6");
        x.due("older 0", -1);
        x.say("field 3 1 6 3");
        x.due("older 0", -2);
        x.say("field 0 0 11 9");
        x.due("older 0", -1);
        x.say("field 4 2 6 4");
        x.due("older 0", 0);
        x.say("field 7 7 9 9");
        x.due("older 0", 0);
        x.refused("older 1");
        x.refused("older -1");
        x = story("it FOLLOWS and CUTS: it CUTS", "lineAt 39", "goOn 2", "goOn 2", "goOn 4", "field 3 3 6 6");
        x.due("meets 0 0", 3);
        x.due("older 0", 1);
    }

    private static void hedges() {
        Story x = story("HEDGE: a row of so many CELLS (2 .. 12)", "lineOfSight 0 11 0", "lineOfSight 0 108 0", "lineAt 50", "goOn 3", "goOn 5",
            "lineAt 50", "lineOfSight 9 108 0");
        x.due("hedge 0 2 0", 11);
        x.due("hedge 0 11 0", 2);
        x.due("hedge 0 12 0", 1);
        x.refused("hedge 0 13 0");
        x.refused("hedge 0 1 0");
        x.refused("hedge 0 13 1");
        x.refused("hedge 0 1 1");
        x.refused("hedge 0 2 2");
        x.refused("hedge 0 2 -1");
        x.refused("hedge 5 2 1");
        x.refused("hedge -1 2 1");
        x.about("of all rows of so many CELLS in the LAND, in four directions (2 .. 5)");
        // East, then south-east and south-west, then south.
        x.due("hedge 0 2 1", 11 * 10 + 2 * 11 * 9 + 12 * 9);
        x.due("hedge 0 3 1", 10 * 10 + 2 * 10 * 8 + 12 * 8);
        x.due("hedge 0 9 1", 4 * 10 + 2 * 4 * 2 + 12 * 2);
        x.due("hedge 0 10 1", 3 * 10 + 2 * 3 * 1 + 12 * 1);
        x.due("hedge 0 11 1", 2 * 10);
        x.due("hedge 0 12 1", 10);
        x.due("hedge 1 10 0", 1);
        x.due("hedge 1 11 0", 0);
        x.due("hedge 4 10 0", 1);
        x.about("how many lie wholly on a LINE");
        x.due("hedge 2 2 0", 2);
        x.due("hedge 2 3 0", 0);
        x.due("hedge 3 2 0", 0);
    }

    // ---- the net and the feet

    private static void net() {
        Story x = story("between any two TOWNS a road costs the WAY from the one with the lower letter to the other", "goer y:10+u", "town 1",
            "draw 0 0 0 0 0 50");
        x.refused("net 0 0 dry 0");
        x.say("town 0");
        x.due("net 0 0 dry 0", 60);
        x.due("net 0 0 dry 1", 1);
        x.due("net 0 0 dry 2", 1);
        x.refused("net 0 0 dry 3");
        x.refused("net 0 0 dry -1");
        x.refused("net 1 0 dry 0");
        x.refused("net 0 100 dry 0");
        x = story("Roads are numbered: a b, a c, .., b c, ..", "goer y:10");
        for (int i = 0; i < 8; i++) {
            x.say("town " + (i < 7 ? i : 118));
        }
        int bits = 1 | 1 << 7 | 1 << 13 | 1 << 18 | 1 << 22 | 1 << 25 | 1 << 27;
        x.due("net 0 0 dry 0", 60 + 90);
        x.due("net 0 0 dry 1", bits & ~(1 << 27));
        // To 10, 9 there are nine STEPS from 1, 0 on: b h, c h, d h, e h, f h, g h.
        x.due("net 0 0 dry 2", bits | 1 << 12 | 1 << 17 | 1 << 21 | 1 << 24 | 1 << 26);
    }

    private static void netOfSeveral() {
        Story x = story("MUST: roads in all such NETS; MAY: in some", "goer y:10", "goer y:10+4*t", "town 0", "town 3", "town 36");
        // By 10 all three are 30; with SLANT ones the road from 3 to 36 is 42.
        x.due("net 0 0 dry 0", 60);
        x.due("net 0 0 dry 1", 0);
        x.due("net 0 0 dry 2", 7);
        x.due("net 1 0 dry 0", 60);
        x.due("net 1 0 dry 1", 3);
        x.due("net 1 0 dry 2", 3);
        x.say("town 39");
        // ab ac ad bc bd cd
        x.due("net 1 0 dry 0", 90);
        x.due("net 1 0 dry 1", 0);
        x.due("net 1 0 dry 2", 1 | 2 | 16 | 32);
        x.due("net 0 0 dry 2", 63);
        x.say("town 51");
        // de is 10; the other TOWNS are 40 and more from e.
        x.due("net 1 0 dry 0", 100);
        x.due("net 1 0 dry 1", 1 << 9);
    }

    /** Three TOWNS with roads of 30, 30 and one that is 29, 30 or 31. */
    private static void netByOne() {
        String[] texts = {"y:30-t", "y:30", "y:30+t"};
        int[] costs = {59, 60, 60};
        int[] must = {4, 0, 3};
        int[] may = {7, 7, 3};
        for (int i = 0; i < 3; i++) {
            Story x = story("with the least cost together: " + texts[i], "goer " + texts[i], "town 0", "town 1", "town 12");
            x.due("net 0 0 dry 0", costs[i]);
            x.due("net 0 0 dry 1", must[i]);
            x.due("net 0 0 dry 2", may[i]);
        }
    }

    private static void feetAtTheirBounds() {
        Story x = story("so many TRIPS (1 .. 40), an EASE (0 .. 9), two TOWNS at least", "goer y:10");
        x.refused("feet 0 0 dry 7 5 0");
        x.say("town 0");
        x.refused("feet 0 0 dry 7 5 0");
        x.say("town 1");
        x.refused("trips 0");
        x.refused("trips 1");
        x.due("trodden 0", 0);
        x.due("worn 1", 0);
        x.due("feet 0 0 dry 7 1 0", 2);
        x.due("trodden 0", 1);
        x.due("trodden 1", 1);
        x.refused("feet 0 0 dry 7 0 0");
        x.refused("feet 0 0 dry 7 41 0");
        x.refused("feet 0 0 dry 7 40 10");
        x.refused("feet 0 0 dry 7 40 -1");
        x.refused("feet 0 100 dry 7 40 0");
        x.refused("feet 1 0 dry 7 40 0");
        x.due("feet 0 0 dry 7 40 9", 2);
        x.due("trodden 0", 40);
        x.due("trodden 1", 40);
        x.due("trodden 2", 0);
        x.due("worn 40", 2);
        x.due("worn 41", 0);
        x.about("NEW: TRIPS by which some CELL was TRODDEN for the first time; SETTLED: the last one of these");
        x.due("trips 0", 1);
        x.due("trips 1", 1);
        x.refused("trips 2");
        x.refused("trips -1");
        x.refused("trodden -1");
        x.refused("trodden 120");
        x.due("trodden 119", 0);
    }

    /**
     * Two TOWNS: the draw for the TOWN from is x shifted right by 33, modulo 2, that is bit 33 of x; the draw of one TOWN
     * moves x too. The WAYS there and back are unlike, so that they show what was drawn.
     */
    private static void feetGoRound() {
        for (String seed : new String[] {"0", "1", "-1", "MIN", "MAX", "9223372036854775806", "1234567890123456789"}) {
            Story x = story("x (64 bits, going round), shifted right by 33, without sign, modulo k", "goer y:5", "town 24", "town 26");
            long at = seed.equals("MIN") ? Long.MIN_VALUE : seed.equals("MAX") ? Long.MAX_VALUE : Long.parseLong(seed);
            int there = 0;
            int settled = 1;
            for (int trip = 1; trip <= 40; trip++) {
                at = at * 6364136223846793005L + 1442695040888963407L;
                there += (at >>> 33 & 1) == 0 ? 1 : 0;
                settled = settled == 1 && there != 0 && there != trip ? trip : settled;
                at = at * 6364136223846793005L + 1442695040888963407L;
            }
            x.due("feet 0 0 dry " + seed + " 40 0", 4);
            x.due("trodden 13", there);
            x.due("trodden 37", 40 - there);
            x.due("trodden 24", 40);
            x.due("trodden 26", 40);
            x.due("trips 0", 2);
            x.due("trips 1", settled);
        }
        Story x = story("the TOWN from by a draw of all; the TOWN to by a draw of one fewer, of the others by their letters", "goer y:5", "town 0",
            "town 60", "town 119");
        // The first draw of each seed modulo 3, the second modulo 2.
        int[][] drawn = {{0, 2, 0}, {1, 2, 1}, {2, 1, 0}, {5, 1, 1}, {107, 0, 0}, {130, 0, 1}};
        int[] cells = {0, 60, 119};
        for (int[] one : drawn) {
            int to = one[2] < one[1] ? one[2] : one[2] + 1;
            x.say("feet 0 0 dry " + one[0] + " 1 0");
            for (int town = 0; town < 3; town++) {
                x.due("trodden " + cells[town], town == one[1] || town == to ? 1 : 0);
            }
        }
    }

    private static void feetByTheLatest() {
        Story x = story("FEET walk anew (what they trod before is gone)", "goer y:5", "town 24", "town 26");
        x.say("feet 0 0 dry 3 40 0");
        x.due("worn 1", 4);
        x.due("feet 0 0 dry 3 1 0", 3);
        x.due("trodden 24", 1);
        x.due("worn 1", 3);
        x.due("worn 2", 0);
        x.due("trips 0", 1);
        x.due("trips 1", 1);
    }

    private static void easeToOne() {
        Story x = story("each STEP's PAIN less by EASE times what the CELL is TRODDEN (1 at least)", "goer y:5", "goer y:1", "town 24", "town 26");
        // By EASE 1 the first WAY is less by one each time: there and back go on it, at 1 too.
        x.due("feet 0 0 dry 3 40 1", 3);
        x.due("worn 40", 3);
        x.due("feet 0 0 dry 3 40 9", 3);
        x.about("1 at least: PAINS of 1 stay, and the lower direction goes");
        x.due("feet 1 0 dry 3 40 9", 4);
        x.due("worn 40", 2);
        x.about("PAIN itself is as it was");
        x.due("pains 0 0 dry 24 26", 10);
    }

    private static void wornAndAlike() {
        Story x = story("WORN: so often (1 .. 99) or more; ALIKE of a LINE: its CELLS (each once)", "goer y:5", "town 24", "town 26", "lineAt 24",
            "goOn 3", "goOn 7", "goOn 3", "goOn 1", "lineAt 25");
        x.due("worn 1", 0);
        x.due("worn 99", 0);
        x.due("alike 0 1", 0);
        x.due("alike 0 99", 0);
        x.say("feet 0 0 dry 3 40 1");
        x.due("worn 1", 3);
        x.due("worn 40", 3);
        x.due("worn 41", 0);
        x.due("worn 99", 0);
        x.due("alike 0 1", 3);
        x.due("alike 0 40", 3);
        x.due("alike 0 41", 0);
        x.due("alike 0 99", 0);
        x.due("alike 1 1", 0);
        Story ends = story("WORN, ALIKE: the first and the last CELL of the LAND", "goer y:5", "town 0", "town 119", "lineAt 0", "lineAt 119",
            "lineOfSight 0 119 0");
        ends.say("feet 0 0 dry 0 1 0");
        ends.due("alike 0 1", 1);
        ends.due("alike 1 1", 1);
        ends.due("alike 0 2", 0);
        ends.due("trodden 0", 1);
        ends.due("trodden 119", 1);
        ends.due("worn 1", 12);
        x.refused("worn 0");
        x.refused("worn 100");
        x.refused("alike 0 0");
        x.refused("alike 0 100");
        x.refused("alike 2 1");
        x.refused("alike -1 1");
    }

    // ---- eras

    private static void eras() {
        Story x = story("ERAS (4 at most) keep the LAND as it is drawn NOW", FLAT);
        x.refused("bring 0");
        x.refused("changed 0");
        for (int i = 0; i < 4; i++) {
            x.refused("changed " + i);
            x.due("era", i);
            x.due("changed " + i, 0);
            x.say("draw " + i + " 0 " + i + " 0 " + i + " 1");
            x.due("changed " + i, 1);
        }
        x.refused("era");
        x.refused("changed 4");
        x.refused("changed -1");
        x.refused("bring 4");
        x.refused("bring -1");
        x.refused("then 4 0 0 dry 0 5 NONE");
        x.refused("then -1 0 0 dry 0 5 NONE");
        x.due("count 9", 4);
        x.about("CHANGED: CELLS that are unlike in some way");
        for (int i = 0; i < 4; i++) {
            x.due("changed " + i, 4 - i);
        }
        x.say("draw 0 0 0 0 3 1");
        x.due("changed 0", 4);
        x.say("draw 0 0 11 9 0 9");
        x.due("changed 0", 120);
    }

    private static void bringAndThen() {
        Story x = story("The LAND may be brought back as in one (TOWNS, LINES, all else stay)", "goer y:10+4*t+90*m", "era", "draw 5 0 5 9 3 1",
            "draw 0 9 3 9 0 5", "era", "town 5", "town 7", "lineAt 5", "find 5 0 1", "pit 5", "field 0 0 1 1", "known 0", "book a1b",
            "feet 0 0 dry 1 3 1", "weigh 0 4", "tape y:3");
        x.about("THEN: PAINS and WAYS as if the LAND were so");
        x.due("pains 0 0 dry 4 6", 110);
        x.due("then 0 0 0 dry 4 6 NONE", 20);
        x.due("then 1 0 0 dry 4 6 NONE", 110);
        x.due("then 0 0 0 dry 4 6 0", 4);
        x.due("then 0 0 0 dry 4 6 2", 6);
        x.refused("then 0 0 0 dry 4 6 3");
        x.refused("then 0 0 0 dry 4 6 -2");
        x.due("then 0 0 0 dry 4 4 NONE", 0);
        x.due("then 0 0 0 dry 4 4 0", 4);
        x.refused("then 0 0 0 dry 4 4 1");
        x.due("pains 0 0 dry 4 6", 110);
        x.about("how many CELLS are otherwise than just now");
        x.due("bring 1", 0);
        x.due("bring 0", 14);
        x.due("bring 0", 0);
        x.due("changed 1", 14);
        x.due("pains 0 0 dry 4 6", 20);
        int[] counts = {2, 1, 1, 1, 1, 1, 1, 1, 3, 2};
        for (int what = 0; what < 10; what++) {
            x.due("count " + what, counts[what]);
        }
        x.due("trodden 5", 3);
        x.due("evidence 0 0 1", 4);
        x.due("bring 1", 14);
        x.due("drawn 5 3", 1);
        x.due("drawn 108 0", 5);
        x.due("drawn 112 0", 0);
    }

    private static void lasting() {
        Story x = story("LASTING: CELLS on the WAY by the LAND of each ERA (0 without ERAS)", "goer y:10+4*t+90*m");
        x.due("lasting 0 0 dry 0 5", 0);
        x.due("lasting 0 0 dry 5 5", 0);
        x.say("era");
        x.due("lasting 0 0 dry 0 5", 6);
        x.due("lasting 0 0 dry 5 5", 1);
        x.say("draw 2 0 2 0 3 1");
        x.due("lasting 0 0 dry 0 5", 5);
        x.say("era");
        x.due("lasting 0 0 dry 0 5", 5);
        x.say("bring 0");
        x.due("lasting 0 0 dry 0 5", 5);
        x.say("draw 4 0 4 0 3 1");
        x.due("lasting 0 0 dry 0 5", 4);
        x.refused("lasting 1 0 dry 0 5");
        x.refused("lasting 0 100 dry 0 5");
        x.refused("lasting 0 0 dry 0 120");
        x.refused("lasting 0 0 dry -1 5");
    }
}
