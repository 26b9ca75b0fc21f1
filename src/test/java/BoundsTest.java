import java.util.ArrayList;
import java.util.List;

/**
 * Each promise at the bounds of what it is given: the last value that is allowed and the first one beyond it, on each
 * side, and what answers as refused for want of something or for too much. A refused call changes nothing (see Story).
 */
public final class BoundsTest {
    private static final Checks CHECKS = new Checks("BoundsTest");
    /** Something of each kind, and room for more: 3 TOWNS, 2 GOERS, a BOOK, 3 LINES, 2 KNOWN, 3 PITS, 2 FIELDS, 2 ERAS. */
    private static final String[] RICH = {"draw 3 2 5 6 0 40", "draw 4 3 4 5 0 77", "draw 7 0 7 4 1 1", "draw 0 5 2 8 2 1",
        "draw 8 5 9 8 3 1", "town 13", "town 94", "town 22", "goer y:10+4*t+3*u+90*m", "goer y:m=1|w=1?500+g;y:10+4*t+s*5",
        "book a 12 b 9 c", "lineOfWay 0 0 dry 13 94", "lineOfSight 22 97 5", "lineAt 60", "goOn 2", "goOn 2", "goOn 3", "goOn 4",
        "find 26 0 4", "find 40 1 5", "find 61 2 3", "find 62 3 9", "known 0", "known 2", "pit 53", "pit 66", "pit 27", "field 2 2 6 6",
        "field 5 4 7 6", "era", "draw 6 6 8 8 0 20", "era", "draw 10 2 11 3 3 1", "weigh 1 3", "feet 0 0 dry 77 6 2", "tape y:u>5?7;y:20"};

    public static void main(String[] args) {
        Story rich = new Story(CHECKS, "much", RICH);
        landAndTape(rich);
        ways(rich);
        sightsAndLines(rich);
        findsAndKnown(rich);
        booksAndWorlds(rich);
        fieldsToFeet(rich);
        eras(rich);
        nothingThere();
        tooMany();
        tooManyBooks();
        tooManyBytes();
        tooFewTowns();
        tooFewKnown();
        rims();
        longLines();
        CHECKS.end();
    }

    /** A MANNER's goer and load at their bounds; # is where they stand, one behind the other. */
    private static void manner(Story rich, String call) {
        for (String months : new String[] {"wet", "dry"}) {
            rich.range(call.replace("MANNER", "# 7 " + months), 0, 1);
            rich.range(call.replace("MANNER", "1 # " + months), 0, 99);
        }
    }

    private static void landAndTape(Story rich) {
        rich.about("promise 2");
        rich.range("draw # 3 7 6 0 50", 0, 7);
        rich.range("draw 4 # 7 6 0 50", 0, 6);
        rich.range("draw 4 3 # 6 0 50", 4, 11);
        rich.range("draw 4 3 7 # 0 50", 3, 9);
        rich.range("draw 4 3 7 6 # 1", 0, 3);
        rich.range("draw 4 3 7 6 # 0", 0, 3);
        rich.range("draw 4 3 7 6 0 #", 0, 99);
        for (int what = 1; what < 4; what++) {
            rich.range("draw 4 3 7 6 " + what + " #", 0, 1);
        }
        rich.refused("draw 12 3 12 6 0 50");
        rich.refused("draw 4 10 7 10 0 50");
        rich.refused("draw -1 -1 -1 -1 0 50");
        rich.refused("draw MIN MIN MAX MAX 0 50");
        rich.about("promise 3");
        rich.range("drawn # 0", 0, 119);
        rich.range("drawn 64 #", 0, 3);
        rich.about("promise 4");
        rich.range("town #", 0, 119);
        for (int there : new int[] {13, 94, 22}) {
            rich.refused("town " + there);
        }
        rich.about("promise 6");
        rich.range("end #", 0, 12);
        rich.about("promise 7");
        rich.range("fault #", 0, 1);
        rich.about("promise 8: what is no GOER, no BOOK, no such sort");
        rich.allowed("text 0");
        rich.refused("text 1");
        rich.refused("text 2");
        rich.refused("text -1");
        rich.refused("text MIN");
        rich.refused("text MAX");
    }

    private static void ways(Story rich) {
        rich.about("promise 9");
        rich.range("pain # 0 dry 61 2", 0, 1);
        rich.range("pain 1 # wet 61 2", 0, 99);
        rich.range("pain 1 99 wet 61 #", 0, 7);
        rich.allowed("pain 0 0 dry 0 4");
        rich.allowed("pain 0 0 dry 119 0");
        for (int d = 0; d < 8; d++) {
            rich.beyond("pain 0 0 dry # " + d, 0, 119);
        }
        rich.about("promise 10");
        manner(rich, "pains MANNER 13 94");
        rich.range("pains 0 0 dry # 94", 0, 119);
        rich.range("pains 0 0 dry 13 #", 0, 119);
        rich.allowed("pains 0 0 dry 13 13");
        rich.about("promise 11");
        manner(rich, "way MANNER 13 94 NONE");
        manner(rich, "way MANNER 13 94 0");
        rich.range("way 0 0 dry # 94 0", 0, 119);
        rich.range("way 0 0 dry 13 # NONE", 0, 119);
        rich.range("way 0 0 dry 0 3 #", -1, 3);
        rich.range("way 0 0 dry 50 50 #", -1, 0);
        rich.about("promise 12");
        manner(rich, "nearly MANNER 13 94 10 NONE");
        rich.range("nearly 0 0 dry # 94 10 50", 0, 119);
        rich.range("nearly 0 0 dry 13 # 10 50", 0, 119);
        rich.range("nearly 0 0 dry 13 94 # NONE", 0, 100);
        rich.range("nearly 0 0 dry 13 94 # 60", 0, 100);
        rich.range("nearly 0 0 dry 13 94 10 #", -1, 119);
    }

    private static void sightsAndLines(Story rich) {
        rich.about("promise 13");
        rich.range("sees # 60", 0, 119);
        rich.range("sees 60 #", 0, 119);
        for (int cell : new int[] {0, 60, 119}) {
            rich.refused("sees " + cell + " " + cell);
        }
        rich.refused("sees -1 -1");
        rich.about("promise 14");
        rich.range("sights # 94 5 NONE", 0, 119);
        rich.range("sights 13 # 5 0", 0, 119);
        rich.range("sights 13 94 # NONE", 1, 11);
        rich.range("sights 13 94 # 1", 1, 11);
        rich.range("sights 24 35 11 #", -1, 2);
        rich.range("sights 50 50 5 #", -1, 0);
        rich.about("promise 15");
        manner(rich, "lineOfWay MANNER 13 94");
        rich.range("lineOfWay 0 0 dry # 94", 0, 119);
        rich.range("lineOfWay 0 0 dry 13 #", 0, 119);
        rich.about("promise 16");
        rich.range("lineOfSight # 94 5", 0, 119);
        rich.range("lineOfSight 13 # 5", 0, 119);
        rich.range("lineOfSight # 94 0", 0, 119);
        rich.range("lineOfSight 13 # 0", 0, 119);
        rich.range("lineOfSight 13 94 #", 0, 11);
        rich.about("promise 17");
        rich.range("lineAt #", 0, 119);
        rich.about("promise 18");
        rich.range("goOn #", 0, 7);
        rich.about("promise 19");
        rich.range("line # NONE", 0, 2);
        rich.range("line # 0", 0, 2);
        rich.range("line 2 #", -1, 4);
        rich.about("promise 20");
        for (int what = 0; what < 3; what++) {
            rich.range("about # " + what, 0, 2);
        }
        rich.range("about 2 #", 0, 2);
    }

    private static void findsAndKnown(Story rich) {
        rich.about("promise 21");
        rich.range("find # 1 5", 0, 119);
        rich.range("find 50 # 5", 0, 3);
        rich.range("find 50 1 #", 1, 9);
        rich.about("promise 22");
        rich.range("near # 2 15", 0, 2);
        rich.range("near 2 # 15", 0, 5);
        rich.range("near 2 2 #", 0, 15);
        rich.about("promise 23");
        for (int what = 0; what < 2; what++) {
            rich.range("against # 2 15 " + what, 0, 2);
            rich.range("against 2 # 15 " + what, 0, 5);
            rich.range("against 2 2 # " + what, 0, 15);
        }
        rich.range("against 2 2 15 #", 0, 1);
        rich.about("promise 24");
        rich.allowed("known 1");
        rich.beyond("known #", 0, 2);
        rich.refused("known 0");
        rich.refused("known 2");
        rich.about("promise 25");
        manner(rich, "miss MANNER 1");
        rich.range("miss 1 0 dry #", 0, 1);
        rich.about("promise 26");
        rich.range("best # dry 0", 0, 99);
        rich.range("best # wet 1", 0, 99);
        rich.range("best 0 dry #", 0, 1);
        rich.about("promise 27");
        rich.range("tried # dry", 0, 99);
        rich.range("tried # wet", 0, 99);
    }

    private static void booksAndWorlds(Story rich) {
        rich.about("promise 28");
        rich.range("stage # 0 2", 0, 0);
        rich.range("stage 0 # 2", 0, 1);
        rich.range("stage 0 1 #", 0, 2);
        rich.about("promise 29");
        rich.range("off # 0 0 0 dry", 0, 0);
        rich.range("off 0 # 0 0 dry", 0, 1);
        manner(rich, "off 0 1 MANNER");
        rich.about("promise 30");
        rich.range("slip # 0 0 0 dry 1", 0, 0);
        rich.range("slip 0 # 0 0 dry 1", 0, 1);
        manner(rich, "slip 0 1 MANNER 1");
        rich.range("slip 0 1 0 0 dry #", 0, 20);
        rich.about("promise 31");
        rich.range("holds # 0 1", 0, 0);
        rich.range("holds 0 # 1", 0, 1);
        rich.range("holds 0 0 #", 0, 20);
        rich.about("promise 32");
        rich.range("weigh # 5", 0, 1);
        rich.range("weigh 0 #", 0, 9);
        rich.about("promise 33");
        rich.range("evidence # 1 0", 0, 1);
        rich.range("evidence 0 # 1", 0, 2);
        rich.range("evidence 0 1 #", 0, 2);
        rich.about("promise 34");
        rich.range("odds # 1 50", 0, 2);
        rich.range("odds 1 # NONE", 0, 2);
        rich.range("odds 1 0 #", -1, 119);
        rich.about("promise 35");
        rich.range("pit #", 0, 119);
        rich.about("promise 36");
        rich.range("dig # 1 3", 0, 2);
        rich.range("dig 1 # 3", 0, 2);
        rich.range("dig 0 1 #", 0, 6);
        rich.about("promises 33, 34, 36: one TOWN");
        for (int town = 0; town < 3; town++) {
            rich.refused("evidence 0 " + town + " " + town);
            rich.refused("odds " + town + " " + town + " NONE");
            rich.refused("dig " + town + " " + town + " 3");
        }
    }

    private static void fieldsToFeet(Story rich) {
        rich.about("promise 37");
        rich.range("field # 3 7 6", 0, 7);
        rich.range("field 4 # 7 6", 0, 6);
        rich.range("field 4 3 # 6", 4, 11);
        rich.range("field 4 3 7 #", 3, 9);
        rich.refused("field 12 3 12 6");
        rich.refused("field 4 10 7 10");
        rich.about("promise 38");
        rich.range("meets # 1", 0, 2);
        rich.range("meets 2 #", 0, 1);
        rich.about("promise 39");
        rich.range("older #", 0, 2);
        rich.about("promise 40");
        for (int what = 0; what < 2; what++) {
            rich.range("hedge # 3 " + what, 0, 2);
            rich.range("hedge 0 # " + what, 2, 12);
        }
        rich.range("hedge 0 3 #", 0, 1);
        rich.about("promise 41");
        for (int what = 0; what < 3; what++) {
            manner(rich, "net MANNER " + what);
        }
        rich.range("net 0 0 dry #", 0, 2);
        rich.about("promise 42");
        manner(rich, "feet MANNER 5 10 1");
        rich.range("feet 0 0 dry 5 # 1", 1, 40);
        rich.range("feet 0 0 dry 5 10 #", 0, 9);
        for (String seed : new String[] {"MIN", "MAX", "0", "-1"}) {
            rich.allowed("feet 0 0 dry " + seed + " 40 9");
            rich.refused("feet 0 0 dry " + seed + " 41 9");
        }
        rich.about("promise 43");
        rich.range("trodden #", 0, 119);
        rich.about("promise 44");
        rich.range("trips #", 0, 1);
        rich.about("promise 45");
        rich.range("worn #", 1, 99);
        rich.about("promise 46");
        rich.range("alike # 1", 0, 2);
        rich.range("alike 0 #", 1, 99);
    }

    private static void eras(Story rich) {
        rich.about("promise 47");
        rich.allowed("era");
        rich.about("promise 48");
        rich.range("bring #", 0, 1);
        rich.about("promise 49");
        rich.range("changed #", 0, 1);
        rich.about("promise 50");
        rich.range("then # 0 0 dry 13 94 NONE", 0, 1);
        rich.range("then # 0 0 dry 13 94 0", 0, 1);
        manner(rich, "then 0 MANNER 13 94 NONE");
        rich.range("then 0 0 0 dry # 94 NONE", 0, 119);
        rich.range("then 0 0 0 dry 13 # 0", 0, 119);
        rich.range("then 0 0 0 dry 0 3 #", -1, 3);
        rich.about("promise 51");
        manner(rich, "lasting MANNER 13 94");
        rich.range("lasting 0 0 dry # 94", 0, 119);
        rich.range("lasting 0 0 dry 13 #", 0, 119);
        rich.about("promise 52");
        rich.range("count #", 0, 9);
    }

    /** On a new object there is nothing that these could be about. */
    private static void nothingThere() {
        Story none = new Story(CHECKS, "a new object");
        for (String call : new String[] {"text 0", "text 1", "end 1", "pain 0 0 dry 61 2", "pains 0 0 dry 0 1", "way 0 0 dry 0 1 NONE",
            "way 0 0 dry 0 0 0", "nearly 0 0 dry 0 1 10 NONE", "lineOfWay 0 0 dry 0 1", "goOn 2", "line 0 NONE", "line 0 0",
            "about 0 0", "near 0 0 15", "against 0 0 15 1", "known 0", "miss 0 0 dry 0", "best 0 dry 0", "best 0 wet 1", "tried 0 dry",
            "stage 0 0 0", "off 0 0 0 0 dry", "slip 0 0 0 0 dry 0", "holds 0 0 0", "weigh 0 1", "evidence 0 0 1", "odds 0 1 NONE",
            "odds 0 1 5", "dig 0 1 0", "meets 0 0", "older 0", "hedge 0 2 1", "net 0 0 dry 0", "feet 0 0 dry 1 1 0", "trips 0", "trips 1",
            "alike 0 1", "bring 0", "changed 0", "then 0 0 0 dry 0 1 NONE", "lasting 0 0 dry 0 1"}) {
            none.refused(call);
        }
        for (String call : new String[] {"drawn 0 0", "end 0", "fault 0", "fault 1", "sees 0 1", "sights 0 1 1 NONE", "trodden 0", "worn 1",
            "count 0", "pit 0", "field 0 0 0 0", "find 0 0 1", "lineAt 0", "lineOfSight 0 1 0", "era", "town 0", "feed 0 0 0 0 0"}) {
            none.allowed(call);
        }
    }

    /** All that there may be of each thing; the last one is still taken, one more is refused. */
    private static void tooMany() {
        List<String> run = new ArrayList<>(List.of("draw 0 4 11 5 0 30", "draw 3 3 8 7 3 1"));
        for (int i = 0; i < 8; i++) {
            run.add("town " + 13 * i);
        }
        for (int i = 0; i < 6; i++) {
            run.add("goer y:" + (10 + i) + "+" + i + "*m+u");
        }
        for (int i = 0; i < 4; i++) {
            run.add("book a " + 10 * i + "b" + i + "h");
        }
        for (int i = 0; i < 9; i++) {
            run.add(i % 3 == 0 ? "lineOfWay 0 0 dry " + i + " 60" : i % 3 == 1 ? "lineOfSight " + i + " 70 5" : "lineAt " + i);
        }
        for (int i = 0; i < 30; i++) {
            run.add("find " + 4 * i + " " + (i == 0 ? 0 : 1 + i % 3) + " " + (1 + i % 9));
        }
        for (int i = 0; i < 6; i++) {
            run.add("known " + (8 - i));
        }
        for (int i = 0; i < 6; i++) {
            run.add("pit " + 14 * i);
        }
        for (int i = 0; i < 8; i++) {
            run.add("field " + i + " 0 11 " + i);
        }
        for (int i = 0; i < 3; i++) {
            run.add("era");
            run.add("draw " + i + " 0 11 3 0 " + i);
        }
        run.add("feet 0 0 dry 9 40 9");
        Story full = new Story(CHECKS, "as many as there may be", run.toArray(new String[0]));
        full.due("lineAt 60", 9);
        full.due("era", 3);
        full.due("goOn 2", 2);
        full.due("tape y:7", 3);
        for (String call : new String[] {"town 1", "town 119", "town 13", "text 0", "lineOfWay 0 0 dry 0 1", "lineOfSight 0 1 1",
            "lineOfSight 0 1 0", "lineAt 0", "find 0 0 1", "find 119 3 9", "known 0", "known 9", "known 8", "known 10", "pit 0", "pit 119",
            "field 0 0 0 0", "field 0 0 11 9", "era"}) {
            full.refused(call);
        }
        full.range("pains # 0 dry 0 119", 0, 5);
        full.range("line # NONE", 0, 9);
        full.range("miss 0 0 dry #", 0, 5);
        full.range("stage # 0 2", 0, 3);
        full.range("odds # 3 NONE", 0, 7);
        full.range("meets 0 #", 0, 7);
        full.range("changed #", 0, 3);
        int[] most = {8, 6, 4, 10, 30, 6, 6, 8, 3, 4};
        for (int what = 0; what < most.length; what++) {
            full.due("count " + what, most[what]);
        }
    }

    private static void tooManyBooks() {
        Story full = new Story(CHECKS, "promise 8: four BOOKS", "town 0", "town 5", "goer y:10", "book a1b", "book a2b", "book a3b", "book a4b");
        full.due("tape b5a", 3);
        full.due("fault 1", -1);
        full.refused("text 1");
        full.due("fault 1", -1);
        full.due("stage 3 0 2", 4);
    }

    private static void tooManyBytes() {
        StringBuilder text = new StringBuilder("y:1");
        while (text.length() < 101) {
            text.append("+u");
        }
        Story x = new Story(CHECKS, "promise 5: 120 bytes", "goer y:10", "tape " + text);
        x.due("count 8", 101);
        x.allowed("feed 741682549 741682549 741682549 741682549 7416825");
        x.refused("feed 741682549 741682549 741682549 741682549 741682549");
        x.refused("feed -1 -1 -1 -1 -1");
        x.due("feed 724249387 724249387 724249387 724249387 2831225", 120);
        x.refused("feed 0 0 0 0 1");
        x.refused("feed 16777216 0 0 0 0");
        x.refused("feed 0 -16777216 0 0 0");
        x.refused("feed -1 -1 -1 -1 -1");
        x.due("feed 0 0 0 0 0", 120);
        x.about("promise 6: 120 bytes");
        x.range("end #", 0, 120);
    }

    private static void tooFewTowns() {
        Story x = new Story(CHECKS, "promises 41, 42: without TOWNS", "goer y:10", "era");
        x.refused("net 0 0 dry 0");
        x.refused("feet 0 0 dry 1 1 0");
        x.say("town 0");
        x.about("promises 41, 42: one TOWN");
        for (int what = 0; what < 3; what++) {
            x.refused("net 0 0 dry " + what);
        }
        x.refused("feet 0 0 dry 1 1 0");
        x.refused("feet 0 0 dry 1 40 9");
        x.refused("trips 0");
        x.refused("evidence 0 0 1");
        x.refused("odds 0 1 NONE");
        x.refused("dig 0 1 0");
        x.say("town 1");
        x.about("promises 41, 42: two TOWNS");
        x.due("net 0 0 dry 0", 10);
        x.due("net 0 0 dry 1", 1);
        x.due("net 0 0 dry 2", 1);
        x.due("feet 0 0 dry 1 1 0", 2);
        x.due("trips 0", 1);
        x.due("trips 1", 1);
    }

    private static void tooFewKnown() {
        Story x = new Story(CHECKS, "promises 26, 27: no GOERS", "lineAt 0", "lineAt 5", "known 0", "known 1", "town 0", "town 9", "era");
        for (String call : new String[] {"best 0 dry 0", "best 0 dry 1", "tried 0 dry", "miss 0 0 dry 0", "net 0 0 dry 0", "feet 0 0 dry 1 1 0",
            "evidence 0 0 1", "weigh 0 1", "then 0 0 0 dry 0 1 NONE", "lasting 0 0 dry 0 1"}) {
            x.refused(call);
        }
        x.due("odds 0 1 NONE", 0);
        x.due("dig 0 1 6", 0);
        x = new Story(CHECKS, "promise 27: fewer than two KNOWN roads", "goer y:10", "lineAt 0", "lineAt 5");
        x.refused("tried 0 dry");
        x.due("best 0 dry 0", 0);
        x.due("best 0 dry 1", 0);
        x.say("known 1");
        x.refused("tried 0 dry");
        x.say("known 0");
        x.due("tried 0 dry", 0);
        x.due("tried 99 wet", 0);
    }

    /** From each CELL of the LAND's rim the STEPS out of it are refused, and no others. */
    private static void rims() {
        int[] east = {0, 1, 1, 1, 0, -1, -1, -1};
        int[] south = {-1, -1, 0, 1, 1, 1, 0, -1};
        for (int cell = 0; cell < 120; cell++) {
            int x = cell % 12;
            int y = cell / 12;
            if (x > 0 && x < 11 && y > 0 && y < 9 && cell != 13 && cell != 106) {
                continue;
            }
            Story at = new Story(CHECKS, "out of the LAND from " + cell, "goer y:10+t", "lineAt " + cell);
            for (int d = 0; d < 8; d++) {
                boolean in = x + east[d] >= 0 && x + east[d] < 12 && y + south[d] >= 0 && y + south[d] < 10;
                if (in) {
                    at.allowed("goOn " + d);
                    at.allowed("pain 0 0 dry " + cell + " " + d);
                } else {
                    at.refused("goOn " + d);
                    at.refused("pain 0 0 dry " + cell + " " + d);
                }
            }
        }
    }

    /** The latest LINE goes on to 60 CELLS; one that is not by hand too, and one that is longer does not. */
    private static void longLines() {
        Story x = new Story(CHECKS, "promise 18: it has 60", "lineAt 0", "lineAt 60");
        for (int i = 2; i <= 60; i++) {
            x.due("goOn " + (i % 2 == 0 ? 2 : 6), i);
        }
        for (int d = 0; d < 8; d++) {
            x.refused("goOn " + d);
        }
        x.range("line 1 #", -1, 59);
        x.due("lineAt 7", 2);
        x.due("goOn 4", 2);
        // Down a row of heights that winds through the LAND, CELL by CELL.
        List<String> run = new ArrayList<>(List.of("goer y:d=1?1;y:9999"));
        int made = 0;
        for (int y = 0; y < 10; y += 2) {
            for (int i = 0; i < 12; i++) {
                int column = y % 4 == 0 ? i : 11 - i;
                run.add("draw " + column + " " + y + " " + column + " " + y + " 0 " + (99 - made++));
            }
            int turn = y % 4 == 0 ? 11 : 0;
            run.add("draw " + turn + " " + (y + 1) + " " + turn + " " + (y + 1) + " 0 " + (99 - made++));
        }
        Story wound = new Story(CHECKS, "promise 18: a WAY of 60 and more", run.toArray(new String[0]));
        wound.due("way 0 0 dry 0 96 NONE", 52);
        wound.due("way 0 0 dry 0 103 NONE", 59);
        wound.due("lineOfWay 0 0 dry 0 103", 0);
        wound.due("line 0 NONE", 60);
        wound.refused("goOn 2");
        wound.due("lineOfWay 0 0 dry 0 102", 1);
        wound.due("line 1 NONE", 59);
        wound.allowed("goOn 2");
        wound.due("lineOfWay 0 0 dry 0 107", 2);
        wound.due("line 2 NONE", 64);
        wound.refused("goOn 4");
        wound.refused("goOn 6");
        wound.range("line 2 #", -1, 63);
    }
}
