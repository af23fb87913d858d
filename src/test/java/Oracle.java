import java.util.ArrayList;
import java.util.Arrays;
import java.util.HashSet;
import java.util.List;
import java.util.Set;
import java.util.function.IntBinaryOperator;
import java.util.regex.Matcher;
import java.util.regex.Pattern;

/** The document's words done the slow way, to compare answers with: nothing is shared with the class. */
final class Oracle {
    private static final Set<String> RESERVED = new HashSet<>(Arrays.asList("ends", "turn", "spiral", "back", "halves", "thirds",
        "shift", "swap", "rhyme", "whole", "every", "feet", "word", "beats", "kind", "bar", "not", "and", "or"));

    int ends = 1;
    int steps;
    int feet;
    int bars;
    final List<int[]> rhymes = new ArrayList<>();
    final List<int[]> wholes = new ArrayList<>();
    final List<int[]> words = new ArrayList<>();
    int[] from = {0};
    private final List<String> names = new ArrayList<>();
    private final List<IntBinaryOperator> tests = new ArrayList<>();
    final List<int[]> draft = new ArrayList<>();

    private static final class Fault extends RuntimeException {
        private final int number;

        Fault(int number) {
            this.number = number;
        }
    }

    /** The same form and draft, of which the draft can be changed alone. */
    Oracle copy() {
        Oracle other = new Oracle();
        other.ends = ends;
        other.steps = steps;
        other.feet = feet;
        other.bars = bars;
        other.from = from;
        other.rhymes.addAll(rhymes);
        other.wholes.addAll(wholes);
        other.words.addAll(words);
        other.tests.addAll(tests);
        other.draft.addAll(draft);
        return other;
    }

    // ---- reading ----

    private final List<String> tokens = new ArrayList<>();
    private final List<Integer> places = new ArrayList<>();
    private int now;

    /** The fault of a text; without one the oracle is that form. */
    int read(String text) {
        Matcher matcher = Pattern.compile("[a-z]+|[0-9]+|[^ \n]").matcher(text);
        while (matcher.find()) {
            tokens.add(matcher.group());
            places.add(matcher.start());
        }
        tokens.add("");
        places.add(text.length());
        try {
            expect("ends");
            ends = number(1, 12, -1);
            from = new int[ends];
            for (int p = 0; p < ends; p++) {
                from[p] = p;
            }
            expect(";");
            while (!token().isEmpty()) {
                line();
                expect(";");
            }
            return 0;
        } catch (Fault fault) {
            return fault.number;
        }
    }

    private String token() {
        return tokens.get(now);
    }

    private Fault fault(int kind) {
        return new Fault(kind + 16 * places.get(now));
    }

    private void check(boolean good, int kind) {
        if (!good) {
            throw fault(kind);
        }
    }

    private void expect(String due) {
        check(token().equals(due), 1);
        now++;
    }

    private int number(int least, int most, int not) {
        check(token().matches("[0-9]{1,4}"), 1);
        int number = Integer.parseInt(token());
        check(number != not, 3);
        check(number >= least && number <= most, 4);
        now++;
        return number;
    }

    private void line() {
        switch (token()) {
            case "turn":
                now++;
                do {
                    step();
                } while (!token().equals(";"));
                break;
            case "rhyme":
                check(rhymes.size() < 8, 5);
                now++;
                int first = number(0, ends - 1, -1);
                rhymes.add(new int[] {first, number(0, ends - 1, first)});
                break;
            case "whole":
                now++;
                for (int[] whole : wholes) {
                    check(!token().matches("[0-9]{1,4}") || Integer.parseInt(token()) != whole[0], 3);
                }
                int place = number(0, ends - 1, -1);
                expect("every");
                wholes.add(new int[] {place, number(1, 99, -1)});
                break;
            case "feet":
                check(feet == 0, 3);
                now++;
                feet = number(1, 99, -1);
                break;
            case "word":
                check(words.size() < 12, 5);
                now++;
                check(token().matches("[a-z]{1,8}") && !RESERVED.contains(token()), 1);
                check(!names.contains(token()), 3);
                names.add(token());
                now++;
                expect("rhyme");
                int rhyme = number(0, 99, -1);
                expect("beats");
                int beats = number(1, 9, -1);
                expect("kind");
                words.add(new int[] {rhyme, beats, number(0, 99, -1)});
                break;
            case "bar":
                check(bars < 4, 5);
                now++;
                tests.add(tests(0));
                bars++;
                break;
            default:
                throw fault(1);
        }
    }

    private void step() {
        List<String> all = Arrays.asList("spiral", "back", "halves", "thirds", "shift", "swap");
        String step = token();
        check(all.contains(step), 1);
        check(steps < 8, 5);
        now++;
        List<Integer> row = new ArrayList<>();
        for (int p : from) {
            row.add(p);
        }
        List<Integer> next = new ArrayList<>();
        switch (step) {
            case "spiral":
                while (!row.isEmpty()) {
                    next.add(row.remove(row.size() - 1));
                    if (!row.isEmpty()) {
                        next.add(row.remove(0));
                    }
                }
                break;
            case "back":
                for (int p : row) {
                    next.add(0, p);
                }
                break;
            case "halves":
                int half = ends - ends / 2;
                for (int p = 0; p < half; p++) {
                    next.add(row.get(p));
                    if (half + p < ends) {
                        next.add(row.get(half + p));
                    }
                }
                break;
            case "thirds":
                for (int start = 0; start < 3; start++) {
                    for (int p = start; p < ends; p += 3) {
                        next.add(row.get(p));
                    }
                }
                break;
            case "shift":
                int times = number(0, 11, -1);
                next = row;
                for (int i = 0; i < times; i++) {
                    next.add(0, next.remove(ends - 1));
                }
                break;
            default:
                int a = number(0, ends - 1, -1);
                int b = number(0, ends - 1, a);
                next = row;
                int kept = next.get(a);
                next.set(a, next.get(b));
                next.set(b, kept);
        }
        steps++;
        for (int p = 0; p < ends; p++) {
            from[p] = next.get(p);
        }
    }

    private IntBinaryOperator tests(int within) {
        IntBinaryOperator left = test(within);
        while (token().equals("and") || token().equals("or")) {
            boolean both = token().equals("and");
            now++;
            IntBinaryOperator first = left;
            IntBinaryOperator second = test(within);
            left = (a, b) -> {
                boolean one = first.applyAsInt(a, b) != 0;
                boolean two = second.applyAsInt(a, b) != 0;
                return (both ? one && two : one || two) ? 1 : 0;
            };
        }
        return left;
    }

    private IntBinaryOperator test(int within) {
        IntBinaryOperator first = sum(within);
        if (token().equals("<")) {
            now++;
            IntBinaryOperator second = sum(within);
            return (a, b) -> first.applyAsInt(a, b) < second.applyAsInt(a, b) ? 1 : 0;
        }
        if (token().equals("=")) {
            now++;
            IntBinaryOperator second = sum(within);
            return (a, b) -> first.applyAsInt(a, b) == second.applyAsInt(a, b) ? 1 : 0;
        }
        return first;
    }

    private IntBinaryOperator sum(int within) {
        IntBinaryOperator left = product(within);
        while (token().equals("+") || token().equals("-")) {
            int sign = token().equals("+") ? 1 : -1;
            now++;
            IntBinaryOperator first = left;
            IntBinaryOperator second = product(within);
            left = (a, b) -> first.applyAsInt(a, b) + sign * second.applyAsInt(a, b);
        }
        return left;
    }

    private IntBinaryOperator product(int within) {
        IntBinaryOperator left = part(within);
        while (token().equals("*")) {
            now++;
            IntBinaryOperator first = left;
            IntBinaryOperator second = part(within);
            left = (a, b) -> first.applyAsInt(a, b) * second.applyAsInt(a, b);
        }
        return left;
    }

    private IntBinaryOperator part(int within) {
        String token = token();
        check(token.matches("[0-9]{1,4}|sort|next|long|short|alike|not|\\("), 1);
        check(within < 5, 5);
        now++;
        switch (token) {
            case "sort":
                return (a, b) -> words.get(a)[2];
            case "next":
                return (a, b) -> words.get(b)[2];
            case "long":
                return (a, b) -> words.get(a)[1];
            case "short":
                return (a, b) -> words.get(b)[1];
            case "alike":
                return (a, b) -> words.get(a)[0] == words.get(b)[0] ? 1 : 0;
            case "not":
                IntBinaryOperator denied = part(within + 1);
                return (a, b) -> denied.applyAsInt(a, b) == 0 ? 1 : 0;
            case "(":
                IntBinaryOperator inner = tests(within + 1);
                expect(")");
                return inner;
            default:
                int number = Integer.parseInt(token);
                return (a, b) -> number;
        }
    }

    // ---- answers ----

    boolean barred(int ahead, int behind) {
        for (IntBinaryOperator test : tests) {
            if (test.applyAsInt(ahead, behind) != 0) {
                return true;
            }
        }
        return false;
    }

    /** The ends of a stanza, line by line. */
    int[] stanza(int number) {
        int[] row = new int[ends];
        for (int p = 0; p < ends; p++) {
            row[p] = p;
        }
        for (int i = 0; i < number; i++) {
            int[] next = new int[ends];
            for (int p = 0; p < ends; p++) {
                next[p] = row[from[p]];
            }
            row = next;
        }
        return row;
    }

    int round() {
        int stanza = 1;
        while (!Arrays.equals(stanza(stanza), stanza(0))) {
            stanza++;
        }
        return stanza;
    }

    /** Whether ends are of one class, as a table. */
    boolean[][] classes() {
        boolean[][] one = new boolean[ends][ends];
        for (int e = 0; e < ends; e++) {
            one[e][e] = true;
        }
        for (int s = 0; s < round(); s++) {
            int[] row = stanza(s);
            for (int[] pair : rhymes) {
                one[row[pair[0]]][row[pair[1]]] = true;
                one[row[pair[1]]][row[pair[0]]] = true;
            }
        }
        for (int k = 0; k < ends; k++) {
            for (int i = 0; i < ends; i++) {
                for (int j = 0; j < ends; j++) {
                    one[i][j] |= one[i][k] && one[k][j];
                }
            }
        }
        return one;
    }

    int rhymes(int end) {
        boolean[][] one = classes();
        int least = 0;
        while (!one[least][end]) {
            least++;
        }
        return least;
    }

    int beside(int a, int b) {
        int stanzas = 0;
        for (int s = 0; s < round(); s++) {
            int[] row = stanza(s);
            for (int p = 1; p < ends; p++) {
                stanzas += row[p] == a && row[p - 1] == b || row[p] == b && row[p - 1] == a ? 1 : 0;
            }
        }
        return stanzas;
    }

    long roots() {
        long count = 0;
        for (int[] turning : orders(ends)) {
            boolean root = true;
            for (int p = 0; p < ends; p++) {
                root &= turning[turning[p]] == from[p];
            }
            count += root ? 1 : 0;
        }
        return count;
    }

    /** All orders of n numbers, the least first. */
    private static List<int[]> orders(int n) {
        List<int[]> all = new ArrayList<>();
        all.add(new int[0]);
        for (int i = 0; i < n; i++) {
            List<int[]> longer = new ArrayList<>();
            for (int[] start : all) {
                for (int next = 0; next < n; next++) {
                    int wanted = next;
                    if (Arrays.stream(start).noneMatch(x -> x == wanted)) {
                        int[] more = Arrays.copyOf(start, i + 1);
                        more[i] = next;
                        longer.add(more);
                    }
                }
            }
            all = longer;
        }
        return all;
    }

    /** All ways to give the ends of a set words, no word twice, classes rhyming; -1 for ends without. */
    private List<int[]> gifts(int bits) {
        boolean[][] one = classes();
        List<int[]> all = new ArrayList<>();
        all.add(new int[0]);
        for (int e = 0; e < ends; e++) {
            List<int[]> longer = new ArrayList<>();
            for (int[] start : all) {
                for (int word = (bits >> e & 1) == 0 ? -1 : 0; word < ((bits >> e & 1) == 0 ? 0 : words.size()); word++) {
                    boolean good = true;
                    for (int f = 0; f < e && word >= 0; f++) {
                        good &= start[f] < 0 || start[f] != word
                            && (!one[e][f] || words.get(start[f])[0] == words.get(word)[0]);
                    }
                    if (good) {
                        int[] more = Arrays.copyOf(start, e + 1);
                        more[e] = word;
                        longer.add(more);
                    }
                }
            }
            all = longer;
        }
        return all;
    }

    List<int[]> fills(int bits) {
        List<int[]> all = new ArrayList<>();
        int[][] rows = new int[round()][];
        for (int s = 0; s < rows.length; s++) {
            rows[s] = stanza(s);
        }
        for (int[] gift : gifts(bits)) {
            boolean good = true;
            for (int[] row : rows) {
                for (int p = 1; p < ends && good; p++) {
                    int ahead = gift[row[p - 1]];
                    int behind = gift[row[p]];
                    good = ahead < 0 || behind < 0 || !barred(ahead, behind);
                }
            }
            if (good) {
                all.add(gift);
            }
        }
        return all;
    }

    /** The fewest ends that can't be filled together, -1 if all can. */
    int stuck() {
        int best = -1;
        for (int bits = (1 << ends) - 1; bits > 0; bits--) {
            if ((best < 0 || Integer.bitCount(bits) <= Integer.bitCount(best)) && fills(bits).isEmpty()) {
                best = bits;
            }
        }
        return best;
    }

    /** The line that is wrong, and why; null if none is. */
    int[] judged() {
        boolean[][] one = classes();
        for (int i = 0; i < draft.size(); i++) {
            int s = i / ends;
            int p = i % ends;
            int[] line = draft.get(i);
            int end = stanza(s)[p];
            boolean[] why = new boolean[6];
            why[1] = s > 0 && draft.get(end)[0] != line[0];
            for (int before = 0; before < p && s == 0; before++) {
                why[1] |= draft.get(before)[0] == line[0];
                why[2] |= one[before][p] && words.get(draft.get(before)[0])[0] != words.get(line[0])[0];
            }
            for (int[] whole : wholes) {
                why[3] |= whole[0] == p && s % whole[1] == 0 && draft.get(p)[1] != line[1];
            }
            why[4] = feet != 0 && line[2] != feet;
            why[5] = p > 0 && barred(draft.get(i - 1)[0], line[0]);
            for (int reason = 1; reason < 6; reason++) {
                if (why[reason]) {
                    return new int[] {i, reason};
                }
            }
        }
        return null;
    }

    /** The words of the ends, and behind them how many lines are changed; null: not at all. */
    int[] mended() {
        int[] best = null;
        int[] endsOfLines = new int[draft.size()];
        for (int i = 0; i < draft.size(); i++) {
            endsOfLines[i] = stanza(i / ends)[i % ends];
        }
        for (int[] gift : gifts((1 << ends) - 1)) {
            int changed = 0;
            for (int i = 0; i < draft.size(); i++) {
                changed += gift[endsOfLines[i]] != draft.get(i)[0] ? 1 : 0;
            }
            if (best == null || changed < best[ends]) {
                best = Arrays.copyOf(gift, ends + 1);
                best[ends] = changed;
            }
        }
        return best;
    }

    /** The first renaming that makes this form the other one; null: none. */
    int[] renaming(Oracle other) {
        if (ends != other.ends) {
            return null;
        }
        for (int[] names : orders(ends)) {
            boolean good = true;
            for (int p = 0; p < ends && good; p++) {
                good = names[from[p]] == other.from[names[p]] && every(p) == other.every(names[p]);
                for (int q = 0; q < ends; q++) {
                    good &= rhyme(p, q) == other.rhyme(names[p], names[q]);
                }
            }
            if (good) {
                return names;
            }
        }
        return null;
    }

    private int every(int place) {
        for (int[] whole : wholes) {
            if (whole[0] == place) {
                return whole[1];
            }
        }
        return 0;
    }

    private boolean rhyme(int p, int q) {
        for (int[] pair : rhymes) {
            if (pair[0] == p && pair[1] == q || pair[0] == q && pair[1] == p) {
                return true;
            }
        }
        return false;
    }
}
