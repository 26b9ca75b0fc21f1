import java.util.ArrayList;
import java.util.List;

/**
 * A run of calls on a new object. What a refused call may have changed is looked for in twins: objects made by the same
 * run, with and without it, that are asked everything, some hundred calls each.
 */
final class Story {
    private static final int MOST_CALLS = 512;
    private static final List<List<Told>> QUESTIONS = questions();

    private final Checks checks;
    private String saying;
    private final List<Told> run = new ArrayList<>();
    private final OldRoads roads = new OldRoads();
    private int calls;
    private long[][] untouched;

    Story(Checks checks, String saying, String... calls) {
        this.checks = checks;
        this.saying = saying;
        for (String call : calls) {
            say(call);
        }
    }

    /** What of the document the next calls are about. */
    void about(String newSaying) {
        saying = newSaying;
    }

    /** Such a call must not be refused. */
    long say(String call) {
        Told told = new Told(call);
        run.add(told);
        untouched = null;
        calls += told.calls();
        checks.yes(saying + ": few enough calls", calls <= MOST_CALLS);
        long answer = told.of(roads);
        checks.yes(saying + ": " + call + " is not refused", answer != told.refusal());
        return answer;
    }

    void due(String call, long want) {
        checks.due(saying + ": " + call, want, say(call));
    }

    /** A call that is allowed, but not made in this run; it answers as PlainRoads does. */
    void allowed(String call) {
        Told told = new Told(call);
        PlainRoads plain = new PlainRoads();
        for (Told earlier : run) {
            earlier.of(plain);
        }
        long answer = told.of(made());
        checks.yes(saying + ": " + call + " is not refused", answer != told.refusal());
        checks.due(saying + ": " + call, told.of(plain), answer);
    }

    /** The call answers as told of refused ones and changes nothing. */
    void refused(String call) {
        Told told = new Told(call);
        refused(call, told.refusal());
    }

    void refused(String call, long want) {
        Told told = new Told(call);
        if (untouched == null) {
            untouched = new long[QUESTIONS.size()][];
            for (int i = 0; i < untouched.length; i++) {
                untouched[i] = answers(made(), QUESTIONS.get(i));
            }
        }
        for (int i = 0; i < untouched.length; i++) {
            OldRoads touched = made();
            checks.due(saying + ": " + call, want, told.of(touched));
            long[] answers = answers(touched, QUESTIONS.get(i));
            for (int k = 0; k < answers.length; k++) {
                if (answers[k] != untouched[i][k]) {
                    String question = QUESTIONS.get(i).get(k).text;
                    checks.due(saying + ": behind the refused " + call + " " + question, untouched[i][k], answers[k]);
                    break;
                }
            }
            checks.yes(saying + ": few enough calls", calls + 1 + answers.length <= MOST_CALLS);
        }
    }

    /** # in the call may be anything from lo to hi, and nothing beyond. */
    void range(String call, int lo, int hi) {
        allowed(call.replace("#", "" + lo));
        allowed(call.replace("#", "" + hi));
        beyond(call, lo, hi);
    }

    void beyond(String call, int lo, int hi) {
        refused(call.replace("#", "" + (lo - 1)));
        refused(call.replace("#", "" + (hi + 1)));
        refused(call.replace("#", "MIN"));
        refused(call.replace("#", "MAX"));
    }

    private OldRoads made() {
        OldRoads x = new OldRoads();
        for (Told call : run) {
            call.of(x);
        }
        return x;
    }

    private static long[] answers(OldRoads x, List<Told> questions) {
        long[] answers = new long[questions.size()];
        for (int k = 0; k < answers.length; k++) {
            answers[k] = questions.get(k).of(x);
        }
        return answers;
    }

    // ---- what is asked

    private static List<List<Told>> questions() {
        List<List<Told>> all = new ArrayList<>();
        all.add(ofLand(0, 60));
        all.add(ofLand(60, 120));
        all.add(ofFeetAndErasAndSights());
        all.add(ofLines());
        all.add(ofGoers());
        all.add(ofTape());
        all.add(ofWhatComesNext());
        return all;
    }

    private static List<Told> ofLand(int from, int to) {
        List<Told> list = new ArrayList<>();
        for (int cell = from; cell < to; cell++) {
            for (int what = 0; what < 4; what++) {
                list.add(new Told("drawn " + cell + " " + what));
            }
        }
        return list;
    }

    private static List<Told> ofFeetAndErasAndSights() {
        List<Told> list = new ArrayList<>();
        for (int what = 0; what < 10; what++) {
            list.add(new Told("count " + what));
        }
        for (int cell = 0; cell < 120; cell++) {
            list.add(new Told("trodden " + cell));
        }
        for (String call : new String[] {"trips 0", "trips 1", "worn 1", "worn 2", "worn 3", "fault 0", "fault 1", "changed 0", "changed 1",
            "changed 2", "changed 3", "sees 0 11", "sees 0 119", "sees 24 60", "sights 0 119 11 NONE", "sights 0 119 4 1"}) {
            list.add(new Told(call));
        }
        return list;
    }

    private static List<Told> ofLines() {
        List<Told> list = new ArrayList<>();
        for (int line = 0; line < 10; line++) {
            for (String i : new String[] {"NONE", "0", "1", "2", "5", "58", "59"}) {
                list.add(new Told("line " + line + " " + i));
            }
            for (String call : new String[] {"about # 0", "about # 1", "about # 2", "near # 0 15", "near # 5 1", "near # 5 2", "near # 5 4",
                "near # 5 8", "against # 1 15 0", "alike # 1", "older #", "hedge # 2 0"}) {
                list.add(new Told(call.replace("#", "" + line)));
            }
            for (int field = 0; field < 8; field++) {
                list.add(new Told("meets " + line + " " + field));
            }
        }
        return list;
    }

    private static List<Told> ofGoers() {
        List<Told> list = new ArrayList<>();
        for (int g = 0; g < 6; g++) {
            for (String call : new String[] {"pain # 0 dry 24 2", "pain # 9 wet 65 4", "pains # 0 dry 0 119", "way # 5 wet 30 90 2",
                "nearly # 0 dry 0 50 20 NONE", "evidence # 0 1", "evidence # 1 0", "miss # 0 dry 0", "miss # 0 dry 1", "miss # 0 wet 5",
                "off 0 0 # 0 dry", "slip 0 1 # 0 dry 0", "holds 0 # 0", "net # 0 dry 0", "net # 0 dry 1", "then 0 # 0 dry 0 119 NONE",
                "then 3 # 0 dry 0 119 4", "lasting # 0 dry 0 119"}) {
                list.add(new Told(call.replace("#", "" + g)));
            }
        }
        for (int book = 0; book < 4; book++) {
            for (String call : new String[] {"stage # 0 0", "stage # 0 1", "stage # 0 2", "stage # 1 2", "stage # 2 2", "holds # 0 3"}) {
                list.add(new Told(call.replace("#", "" + book)));
            }
        }
        for (String call : new String[] {"odds 0 1 NONE", "odds 1 0 NONE", "odds 0 1 53", "odds 0 2 13", "dig 0 1 6", "dig 0 1 1", "dig 1 0 2",
            "best 0 dry 0", "best 0 dry 1", "best 50 wet 0", "best 50 wet 1", "tried 0 dry", "tried 9 wet"}) {
            list.add(new Told(call));
        }
        return list;
    }

    /** The bytes of the TAPE can be told apart by the FAULTS of its beginnings. */
    private static List<Told> ofTape() {
        List<Told> list = new ArrayList<>();
        for (int n = 120; n >= 0; n--) {
            list.add(new Told("end " + n));
            list.add(new Told("fault 0"));
        }
        return list;
    }

    /** These calls change the object: the numbers that they give tell what it had. */
    private static List<Told> ofWhatComesNext() {
        List<Told> list = new ArrayList<>();
        for (int d = 0; d < 8; d++) {
            list.add(new Told("goOn " + d));
        }
        for (String call : new String[] {"line 0 NONE", "line 2 NONE", "line 9 NONE", "lineAt 7", "lineOfSight 0 11 0", "find 5 1 1", "pit 5",
            "field 0 0 1 1", "town 0", "town 119", "town 60", "count 0", "text 1", "text 0", "count 8", "count 1", "count 2", "pain 0 0 dry 5 4",
            "pain 1 0 dry 5 4", "pain 2 0 dry 5 4", "stage 1 0 2", "weigh 0 2", "weigh 1 1", "odds 0 1 NONE", "dig 0 1 6", "era", "changed 0",
            "draw 0 0 0 0 0 9", "bring 0", "bring 2", "drawn 0 0", "feet 0 0 dry 5 3 1", "trodden 0", "trodden 13", "trips 0", "feed 1 2 3 4 5",
            "count 8"}) {
            list.add(new Told(call));
        }
        for (int line = 0; line < 10; line++) {
            list.add(new Told("known " + line));
        }
        return list;
    }
}
