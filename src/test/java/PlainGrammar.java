import java.util.ArrayList;
import java.util.HashMap;
import java.util.LinkedHashSet;
import java.util.List;
import java.util.Map;
import java.util.Set;

/** GOERS by their grammar: where no item of it can go on, there is the FAULT; and their WORTH by cutting texts apart. */
final class PlainGrammar {
    // Each rule: a name and what it is made of; one sign stands for itself.
    private static final List<String[]> RULES = new ArrayList<>();
    private static final Map<String, List<Integer>> BY_NAME = new HashMap<>();

    static {
        rule("Goer", "Clause");
        rule("Goer", "Goer", ";", "Clause");
        rule("Clause", "y", ":", "Sum0");
        rule("Clause", "y", ":", "Condition0", "?", "Sum0");
        for (int k = 0; k <= 6; k++) {
            two("Condition" + k, "Truth" + k, "|");
            two("Truth" + k, "Unit" + k, "&");
            two("Sum" + k, "Term" + k, "+-");
            two("Term" + k, "Atom" + k, "*/");
            for (char c : "=<>".toCharArray()) {
                rule("Unit" + k, "Sum" + k, "" + c, "Sum" + k);
            }
            rule("Atom" + k, "Number");
            for (char c : "udwfmsgt".toCharArray()) {
                rule("Atom" + k, "" + c);
            }
            if (k < 6) {
                rule("Unit" + k, "!", "Unit" + (k + 1));
                rule("Unit" + k, "(", "Condition" + (k + 1), ")");
                rule("Atom" + k, "[", "Sum" + (k + 1), "]");
            }
        }
        rule("Number", "Digit");
        rule("Number", "Digit", "Digit");
        rule("Number", "Digit", "Digit", "Digit");
        rule("Number", "Digit", "Digit", "Digit", "Digit");
        for (char c = '0'; c <= '9'; c++) {
            rule("Digit", "" + c);
        }
    }

    private static void rule(String... parts) {
        BY_NAME.computeIfAbsent(parts[0], k -> new ArrayList<>()).add(RULES.size());
        RULES.add(parts);
    }

    private static void two(String name, String part, String signs) {
        rule(name, part);
        for (char c : signs.toCharArray()) {
            rule(name, name, "" + c, part);
        }
    }

    private static int item(int rule, int dot, int origin) {
        return (rule * 8 + dot) * 128 + origin;
    }

    /** Earley's way: a set of items for each place; an empty one tells the FAULT. */
    static int fault(String text) {
        List<Integer> places = new ArrayList<>();
        StringBuilder signs = new StringBuilder();
        for (int i = 0; i < text.length(); i++) {
            char c = text.charAt(i);
            if (c == ' ') {
                continue;
            }
            boolean digit = c >= '0' && c <= '9';
            boolean parted = i > 0 && text.charAt(i - 1) == ' ' && signs.length() > 0
                && Character.isDigit(signs.charAt(signs.length() - 1));
            signs.append(digit && parted ? '#' : c);
            places.add(i);
        }
        List<Set<Integer>> sets = new ArrayList<>();
        Set<Integer> first = new LinkedHashSet<>();
        for (int r : BY_NAME.get("Goer")) {
            first.add(item(r, 1, 0));
        }
        sets.add(first);
        for (int i = 0; ; i++) {
            close(sets, i);
            if (i == signs.length()) {
                break;
            }
            Set<Integer> next = new LinkedHashSet<>();
            for (int it : sets.get(i)) {
                String[] rule = RULES.get(it / 1024);
                int dot = it / 128 % 8;
                if (dot < rule.length && rule[dot].equals("" + signs.charAt(i))) {
                    next.add(it + 128);
                }
            }
            if (next.isEmpty()) {
                return places.get(i);
            }
            sets.add(next);
        }
        for (int it : sets.get(signs.length())) {
            String[] rule = RULES.get(it / 1024);
            if (rule[0].equals("Goer") && it / 128 % 8 == rule.length && it % 128 == 0) {
                return -1;
            }
        }
        return text.length();
    }

    private static void close(List<Set<Integer>> sets, int i) {
        List<Integer> work = new ArrayList<>(sets.get(i));
        Set<Integer> here = sets.get(i);
        for (int k = 0; k < work.size(); k++) {
            int it = work.get(k);
            String[] rule = RULES.get(it / 1024);
            int dot = it / 128 % 8;
            List<Integer> more = new ArrayList<>();
            if (dot == rule.length) {
                for (int back : sets.get(it % 128)) {
                    String[] other = RULES.get(back / 1024);
                    int otherDot = back / 128 % 8;
                    if (otherDot < other.length && other[otherDot].equals(rule[0])) {
                        more.add(back + 128);
                    }
                }
            } else if (BY_NAME.containsKey(rule[dot])) {
                for (int r : BY_NAME.get(rule[dot])) {
                    more.add(item(r, 1, i));
                }
            }
            for (int m : more) {
                if (here.add(m)) {
                    work.add(m);
                }
            }
        }
    }

    // ---- WORTH of a text without blanks

    static long worth(String goer, Map<Character, Long> values) {
        for (String clause : goer.split(";")) {
            String body = clause.substring(2);
            int q = body.indexOf('?');
            if (q < 0) {
                return sum(body, values);
            }
            if (holds(body.substring(0, q), values)) {
                return sum(body.substring(q + 1), values);
            }
        }
        return 0;
    }

    /** The last of these signs that stands in no bracket, -1 without. */
    private static int lastOf(String text, String signs) {
        int deep = 0;
        for (int i = text.length() - 1; i >= 0; i--) {
            char c = text.charAt(i);
            deep += c == ')' || c == ']' ? 1 : c == '(' || c == '[' ? -1 : 0;
            if (deep == 0 && signs.indexOf(c) >= 0) {
                return i;
            }
        }
        return -1;
    }

    private static boolean holds(String text, Map<Character, Long> values) {
        int or = lastOf(text, "|");
        if (or >= 0) {
            return holds(text.substring(0, or), values) | holds(text.substring(or + 1), values);
        }
        int and = lastOf(text, "&");
        if (and >= 0) {
            return holds(text.substring(0, and), values) & holds(text.substring(and + 1), values);
        }
        if (text.charAt(0) == '!') {
            return !holds(text.substring(1), values);
        }
        if (text.charAt(0) == '(') {
            return holds(text.substring(1, text.length() - 1), values);
        }
        int cut = lastOf(text, "=<>");
        long a = sum(text.substring(0, cut), values);
        long b = sum(text.substring(cut + 1), values);
        char sign = text.charAt(cut);
        return sign == '=' ? a == b : sign == '<' ? a < b : a > b;
    }

    private static long sum(String text, Map<Character, Long> values) {
        for (String signs : new String[] {"+-", "*/"}) {
            int cut = lastOf(text, signs);
            if (cut >= 0) {
                long a = sum(text.substring(0, cut), values);
                long b = sum(text.substring(cut + 1), values);
                return within(joined(text.charAt(cut), a, b));
            }
        }
        if (text.charAt(0) == '[') {
            return sum(text.substring(1, text.length() - 1), values);
        }
        return Character.isDigit(text.charAt(0)) ? Long.parseLong(text) : values.get(text.charAt(0));
    }

    private static long joined(char sign, long a, long b) {
        if (sign == '+') {
            return a + b;
        }
        if (sign == '-') {
            return a - b;
        }
        if (sign == '*') {
            return a * b;
        }
        if (b == 0) {
            return 0;
        }
        long whole = Math.abs(a) / Math.abs(b);
        return a < 0 == b < 0 ? whole : -whole;
    }

    private static long within(long n) {
        return n > 1000000 ? 1000000 : n < -1000000 ? -1000000 : n;
    }
}
