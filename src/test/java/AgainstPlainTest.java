import java.lang.reflect.InvocationTargetException;
import java.lang.reflect.Method;
import java.util.ArrayDeque;
import java.util.Deque;
import java.util.HashMap;
import java.util.Map;
import java.util.Random;

/** Runs of calls, made by fixed seeds, whose answers must be those of the document told a second time (PlainRoads). */
public final class AgainstPlainTest {
    // Each call with the kinds of what it is given; the number says how often it comes.
    private static final String[] CALLS = {
        "4 draw box what value", "2 drawn cell what", "2 town cell", "1 feed raw raw raw raw raw", "1 end bytes", "1 fault sort", "1 text sort",
        "3 pain goer load wet cell direction", "3 pains goer load wet cell cell", "4 way goer load wet cell cell index",
        "4 nearly goer load wet cell cell hundredths cellOrNone", "4 sees cell cell", "4 sights cell cell sight index",
        "2 lineOfWay goer load wet cell cell", "2 lineOfSight cell cell sight0", "1 lineAt cell", "8 goOn direction",
        "3 line line index", "3 about line what", "4 find onWay what weight", "3 near line far sorts",
        "3 against line far sorts two", "2 known line", "2 miss goer load wet road", "2 best load wet two",
        "2 tried load wet", "3 stage book stage what", "3 off book stage goer load wet",
        "4 slip book stage goer load wet by", "2 holds book goer by", "2 weigh goer weight0", "3 evidence goer town town",
        "3 odds town town cellOrNone", "2 pit onWay", "4 dig town town many", "1 field wide", "3 meets line field",
        "2 older line", "2 hedge line hedge two", "2 net goer load wet what", "1 feet goer load wet seed trips ease",
        "3 trodden cell", "2 trips two", "2 worn often", "2 alike line often", "1 era", "1 bring era", "2 changed era",
        "3 then era goer load wet cell cell index", "2 lasting goer load wet cell cell", "2 count counted"};

    private static final Map<String, Method> REAL = new HashMap<>();
    private static final Map<String, Method> PLAIN = new HashMap<>();

    private final Random random;
    private final OldRoads real = new OldRoads();
    private final PlainRoads plain = new PlainRoads();
    private final Deque<Object[]> waiting = new ArrayDeque<>();
    private final StringBuilder told = new StringBuilder();
    private final int mostTowns;
    private final boolean rough;

    private AgainstPlainTest(long seed) {
        random = new Random(seed);
        // Trying all NETS takes long with eight TOWNS.
        mostTowns = seed % 10 == 0 ? 8 : 2 + random.nextInt(5);
        rough = random.nextBoolean();
    }

    public static void main(String[] args) throws Exception {
        Checks checks = new Checks("AgainstPlainTest");
        for (Method m : OldRoads.class.getDeclaredMethods()) {
            REAL.put(m.getName(), m);
        }
        for (Method m : PlainRoads.class.getDeclaredMethods()) {
            Method own = REAL.get(m.getName());
            if (own != null && java.util.Arrays.equals(own.getParameterTypes(), m.getParameterTypes())) {
                PLAIN.put(m.getName(), m);
            }
        }
        int runs = args.length > 0 ? Integer.parseInt(args[0]) : 60;
        int first = args.length > 1 ? Integer.parseInt(args[1]) : 1;
        for (int seed = first; seed < first + runs && checks.isClean(); seed++) {
            new AgainstPlainTest(seed).run(seed, checks);
        }
        checks.end();
    }

    private void run(int seed, Checks checks) throws Exception {
        begin();
        for (int call = 0; call < 512 && checks.isClean(); call++) {
            Object[] next = waiting.isEmpty() ? chosen() : waiting.poll();
            String name = (String) next[0];
            Object[] given = java.util.Arrays.copyOfRange(next, 1, next.length);
            long want = answer(PLAIN.get(name), plain, given);
            long got = answer(REAL.get(name), real, given);
            told.append(name).append(java.util.Arrays.toString(given)).append(" -> ").append(want).append('\n');
            if (want != got) {
                System.out.println("seed " + seed + ":\n" + told);
            }
            checks.due("seed " + seed + " call " + call + " " + name + java.util.Arrays.toString(given), want, got);
        }
    }

    private static long answer(Method method, Object object, Object[] given) throws Exception {
        try {
            Object answer = method.invoke(object, given);
            return answer instanceof Boolean ? ((Boolean) answer ? 1 : 0) : (Integer) answer;
        } catch (InvocationTargetException e) {
            if (e.getCause() instanceof java.util.NoSuchElementException) {
                return Long.MIN_VALUE;
            }
            throw e;
        }
    }

    private void say(Object... call) {
        waiting.add(call);
    }

    /** Most runs begin with a LAND, TOWNS and a GOER; some with nothing. */
    private void begin() {
        if (random.nextInt(8) == 0) {
            return;
        }
        for (int i = random.nextInt(30); i > 0; i--) {
            int x = random.nextInt(12);
            int y = random.nextInt(10);
            int what = random.nextInt(4);
            int v = what > 0 ? 1 : rough ? random.nextInt(100) : random.nextInt(4);
            say("draw", x, y, Math.min(11, x + random.nextInt(5)), Math.min(9, y + random.nextInt(5)), what, v);
        }
        for (int i = random.nextInt(mostTowns + 1); i > 0; i--) {
            say("town", random.nextInt(120));
        }
        for (int i = 1 + random.nextInt(4); i > 0; i--) {
            sayText(goer());
            say("text", 0);
        }
    }

    private Object[] chosen() {
        int dice = random.nextInt(100);
        if (dice < 4) {
            String text = goer();
            sayText(random.nextBoolean() ? text : spoiled(text));
            say("fault", 0);
            say("fault", 1);
            if (random.nextInt(3) > 0) {
                say("text", 0);
            }
            return waiting.poll();
        }
        if (dice < 8) {
            String text = book();
            sayText(random.nextInt(3) > 0 ? text : spoiled(text));
            say("fault", 1);
            say("fault", 0);
            if (random.nextInt(3) > 0) {
                say("text", 1);
            }
            return waiting.poll();
        }
        int all = 0;
        for (String call : CALLS) {
            all += call.charAt(0) - '0';
        }
        int at = random.nextInt(all);
        for (String call : CALLS) {
            at -= call.charAt(0) - '0';
            if (at < 0) {
                return made(call.split(" "));
            }
        }
        throw new IllegalStateException();
    }

    private Object[] made(String[] words) {
        java.util.List<Object> call = new java.util.ArrayList<>();
        call.add(words[1]);
        int what = 0;
        for (int i = 2; i < words.length; i++) {
            switch (words[i]) {
                case "box":
                    int x = within(12);
                    int y = within(10);
                    call.add(x);
                    call.add(y);
                    call.add(random.nextInt(20) == 0 ? within(12) : Math.min(11, x + random.nextInt(6)));
                    call.add(random.nextInt(20) == 0 ? within(10) : Math.min(9, y + random.nextInt(6)));
                    break;
                case "wide":
                    int left = within(8);
                    int top = within(6);
                    call.add(left);
                    call.add(top);
                    call.add(random.nextInt(20) == 0 ? within(12) : Math.min(11, left + 1 + random.nextInt(9)));
                    call.add(random.nextInt(20) == 0 ? within(10) : Math.min(9, top + 1 + random.nextInt(8)));
                    break;
                case "wet":
                    call.add(random.nextBoolean());
                    break;
                case "seed":
                    call.add(random.nextLong());
                    break;
                case "what":
                    what = within(4);
                    call.add(what);
                    break;
                case "value":
                    call.add(what > 0 ? within(2) : rough ? within(100) : within(5));
                    break;
                case "town":
                    call.add(within(plain.towns.size()));
                    break;
                default:
                    call.add(number(words[i]));
            }
        }
        if (words[1].equals("town") && plain.towns.size() >= mostTowns) {
            return new Object[] {"count", 0};
        }
        return call.toArray();
    }

    private int number(String kind) {
        switch (kind) {
            case "cell":
                return within(120);
            case "onWay":
                return random.nextInt(5) == 0 ? within(120) : cellOnWay();
            case "raw":
                return random.nextInt(3) == 0 ? random.nextInt() : random.nextInt() & 0xff00ff;
            case "cellOrNone":
                return random.nextInt(3) == 0 ? -1 : within(120);
            case "goer":
                return within(plain.goers.size());
            case "load":
                return random.nextInt(3) == 0 ? 0 : within(100);
            case "direction":
                return within(8);
            case "index":
                return random.nextInt(3) == 0 ? -1 : within(8);
            case "hundredths":
                return random.nextInt(3) == 0 ? within(8) : within(101);
            case "sight":
                return random.nextInt(20) == 0 ? 0 : 1 + within(11);
            case "sight0":
                return random.nextInt(3) == 0 ? 0 : within(12);
            case "line":
                return within(plain.lines.size());
            case "weight":
                return random.nextInt(20) == 0 ? 0 : 1 + within(9);
            case "weight0":
                return within(10);
            case "far":
                return within(6);
            case "sorts":
                return within(16);
            case "two":
                return within(2);
            case "road":
                return within(plain.roads.size());
            case "book":
                return within(plain.books.size());
            case "stage":
                return within(4);
            case "by":
                return random.nextBoolean() ? within(3) : within(21);
            case "many":
                return within(7);
            case "field":
                return within(plain.fields.size());
            case "hedge":
                return random.nextBoolean() ? within(13) : 2 + within(3);
            case "trips":
                return 1 + within(40);
            case "ease":
                return within(10);
            case "often":
                return random.nextInt(3) == 0 ? within(100) : 1 + within(5);
            case "era":
                return within(plain.eras.size());
            case "counted":
                return within(10);
            case "bytes":
                return within(plain.tape.length() + 1);
            case "sort":
                return within(2);
            default:
                throw new IllegalStateException(kind);
        }
    }

    /** A CELL on the WAY of some GOER between two TOWNS, or beside it. */
    private int cellOnWay() {
        if (plain.goers.isEmpty() || plain.towns.size() < 2) {
            return within(120);
        }
        int goer = random.nextInt(plain.goers.size());
        int from = plain.towns.get(random.nextInt(2));
        int to = plain.towns.get(random.nextInt(plain.towns.size()));
        int steps = plain.way(goer, 0, false, from, to, -1);
        int cell = plain.way(goer, 0, false, from, to, random.nextInt(steps + 1));
        int beside = random.nextInt(3) == 0 ? PlainRoads.step(cell, random.nextInt(8)) : -1;
        return beside >= 0 ? beside : cell;
    }

    /** Mostly below a number, but at times at its edges and beyond. */
    private int within(int below) {
        int dice = random.nextInt(60);
        if (dice == 0) {
            return -1;
        }
        if (dice == 1) {
            return below;
        }
        if (dice == 2) {
            return new int[] {Integer.MIN_VALUE, Integer.MAX_VALUE, -2, below + 1}[random.nextInt(4)];
        }
        return below < 1 ? 0 : dice < 6 ? below - 1 : random.nextInt(below);
    }

    // ---- texts

    private void sayText(String text) {
        say("end", 0);
        for (int i = 0; i < text.length(); i += 20) {
            int[] five = new int[5];
            for (int k = 0; k < 20; k++) {
                // Bytes of 0 may stand between.
                int one = i + k < text.length() ? text.charAt(i + k) : 0;
                five[k / 4] = five[k / 4] << 8 | one;
            }
            say("feed", five[0], five[1], five[2], five[3], five[4]);
        }
    }

    private String blanks() {
        return random.nextInt(9) == 0 ? "  ".substring(random.nextInt(2)) : "";
    }

    private String goer() {
        for (int tries = 0; ; tries++) {
            StringBuilder text = new StringBuilder(blanks());
            for (int i = 1 + random.nextInt(3); i > 0; i--) {
                text.append('y').append(blanks()).append(':').append(blanks());
                if (random.nextBoolean()) {
                    condition(text, random.nextInt(5));
                    text.append('?').append(blanks());
                }
                if (random.nextBoolean()) {
                    text.append(random.nextInt(60)).append(blanks()).append('+').append(blanks());
                }
                sum(text, random.nextInt(5));
                if (i > 1) {
                    text.append(';').append(blanks());
                }
            }
            if (text.length() <= 120) {
                return text.toString();
            }
        }
    }

    private void condition(StringBuilder text, int deep) {
        int dice = random.nextInt(10);
        if (deep > 0 && dice < 2) {
            text.append('!').append(blanks());
            unit(text, deep - 1);
        } else if (deep > 0 && dice < 6) {
            unit(text, deep - 1);
            text.append("|&".charAt(random.nextInt(2))).append(blanks());
            unit(text, deep - 1);
        } else {
            unit(text, deep - 1);
        }
    }

    private void unit(StringBuilder text, int deep) {
        if (deep > 0 && random.nextInt(3) == 0) {
            text.append('(').append(blanks());
            condition(text, deep - 1);
            text.append(')').append(blanks());
            return;
        }
        sum(text, Math.min(deep, 2));
        text.append("=<>".charAt(random.nextInt(3))).append(blanks());
        sum(text, Math.min(deep, 1));
    }

    private void sum(StringBuilder text, int deep) {
        atom(text, deep);
        for (int i = random.nextInt(3); i > 0 && deep > 0; i--) {
            text.append("+-*/**".charAt(random.nextInt(6))).append(blanks());
            atom(text, deep - 1);
        }
    }

    private void atom(StringBuilder text, int deep) {
        int dice = random.nextInt(10);
        if (deep > 0 && dice == 0) {
            text.append('[').append(blanks());
            sum(text, deep - 1);
            text.append(']');
        } else if (dice < 7) {
            text.append("udwfmsgt".charAt(random.nextInt(8)));
        } else {
            text.append(random.nextInt(5) == 0 ? random.nextInt(10000) : random.nextInt(20));
        }
        text.append(blanks());
    }

    private String book() {
        int towns = Math.max(1, plain.towns.size());
        StringBuilder text = new StringBuilder(blanks());
        text.append((char) ('a' + random.nextInt(towns))).append(blanks());
        for (int i = 1 + random.nextInt(random.nextInt(5) == 0 ? 30 : 6); i > 0 && text.length() < 110; i--) {
            char to = (char) ('a' + random.nextInt(towns));
            text.append(milesTo(text.toString().trim(), to)).append(blanks());
            text.append(to).append(blanks());
        }
        return text.toString();
    }

    /** The MILES as the first GOER goes them, perhaps with a SLIP. */
    private String milesTo(String text, char to) {
        int from = text.charAt(text.length() - 1) - 'a';
        if (plain.goers.isEmpty() || plain.towns.size() <= Math.max(from, to - 'a') || random.nextInt(3) == 0) {
            return "" + random.nextInt(random.nextInt(4) == 0 ? 100 : 16);
        }
        int miles = plain.miles(0, plain.towns.get(from), plain.towns.get(to - 'a')) % 100;
        String two = miles / 10 + "" + miles % 10;
        switch (random.nextInt(4)) {
            case 0:
                return "" + miles;
            case 1:
                return two.charAt(1) + "" + two.charAt(0);
            case 2:
                return two.charAt(0) + "" + random.nextInt(10);
            default:
                return two;
        }
    }

    private String spoiled(String text) {
        StringBuilder spoiled = new StringBuilder(text);
        String signs = "y:;?|&!(=<>+-*/[]) 0123456789udwfmsgtabh\t\377";
        for (int i = 1 + random.nextInt(2); i > 0; i--) {
            int at = random.nextInt(spoiled.length() + 1);
            int dice = random.nextInt(4);
            char sign = signs.charAt(random.nextInt(signs.length()));
            if (dice == 0 && at < spoiled.length()) {
                spoiled.deleteCharAt(at);
            } else if (dice == 1 && at < spoiled.length()) {
                spoiled.setCharAt(at, sign);
            } else if (dice == 2) {
                spoiled.setLength(at);
            } else {
                String more = random.nextInt(3) == 0 ? "!!!!!!!" : random.nextBoolean() ? "" + sign : "[[([!([";
                spoiled.insert(at, more);
            }
        }
        if (spoiled.length() > 120) {
            spoiled.setLength(120);
        }
        return spoiled.toString();
    }
}
