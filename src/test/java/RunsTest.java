import java.util.ArrayList;
import java.util.List;
import java.util.Random;

/**
 * All promises in one run: forms, drafts and marks come and go on one object, and each call is compared with
 * what the oracle answers for the state that the calls before have made.
 */
final class RunsTest {
    private static final int CALLS = 512;
    // The most calls that one step of a run makes.
    private static final int AT_ONCE = 50;
    // Of more places the oracle would go through too many orders.
    private static final int MOST_ORDERED = 6;
    private static final int THROWN = -100;
    private static final int[] ODD_ONES = {Integer.MIN_VALUE, -2, -1, 5, 6, 7, 11, 12, 13, 32, 99, 100, 201, 1000, Integer.MAX_VALUE};
    private static final long[] STANZAS = {Long.MIN_VALUE, -1, 1000000000000000L, 1000000000000001L, 999999999999999L, Long.MAX_VALUE};

    private final Random random;
    private final RandomForm forms;
    private final EndsRound poem = new EndsRound();
    private final StringBuilder tape = new StringBuilder();
    private final State[] marks = new State[4];
    private State now = new State(new Oracle());
    private int calls;
    private String last = "";

    /** A form with a draft, and what was found out about them. */
    private static final class State {
        private final Oracle form;
        private final int round;
        private List<int[]> fills;
        private int stuck;

        State(Oracle form) {
            this.form = form;
            round = form.round();
        }

        State(State other) {
            this(other.form.copy());
            fills = other.fills;
            stuck = other.stuck;
        }

        boolean isFilled() {
            return form.ends <= 7;
        }

        List<int[]> fills() {
            if (fills == null) {
                fills = form.fills((1 << form.ends) - 1);
                stuck = fills.isEmpty() ? form.stuck() : -1;
            }
            return fills;
        }
    }

    private RunsTest(int seed) {
        random = new Random(seed);
        forms = new RandomForm(random);
    }

    public static void main(String[] args) {
        for (int seed = 0; seed < 600; seed++) {
            RunsTest run = new RunsTest(seed);
            while (run.calls < CALLS - AT_ONCE) {
                run.step();
            }
        }
        Checks.end();
    }

    private void due(String call, long got, long want) {
        calls++;
        Checks.due(call + " behind " + last + ", lines " + now.form.draft.size(), got, want);
    }

    private int any(int count) {
        return count > 0 && random.nextInt(8) > 0 ? random.nextInt(count) : ODD_ONES[random.nextInt(ODD_ONES.length)];
    }

    private static boolean lies(int index, int count) {
        return index >= 0 && index < count;
    }

    private void step() {
        switch (random.nextInt(11)) {
            case 0:
                feedAndRead();
                break;
            case 1:
                turn();
                break;
            case 2:
                stand();
                break;
            case 3:
                words();
                break;
            case 4:
                fill();
                break;
            case 5:
            case 6:
                layLines();
                break;
            case 7:
                mend();
                break;
            case 8:
                same();
                break;
            case 9:
                markOrGoBack();
                break;
            default:
                counts();
        }
    }

    private void feedAndRead() {
        if (random.nextInt(8) > 0) {
            String text = forms.text(random.nextInt(5) == 0 ? 8 + random.nextInt(5) : 1 + random.nextInt(5));
            text = random.nextInt(4) == 0 ? forms.spoilt(text) : text;
            tape.append(text);
            tape.setLength(Math.min(tape.length(), 1000));
            calls += (text.length() + 23) / 24;
            due("feed", Checks.feed(poem, text), tape.length());
        }
        due("feed of no signs", poem.feed(0, 127, -1), tape.length());
        // Sometimes a text stays on the tape while other calls come.
        if (random.nextInt(6) > 0) {
            read();
        }
    }

    private void read() {
        Oracle told = new Oracle();
        String text = tape.toString();
        int fault = told.read(text);
        tape.setLength(0);
        due("form of " + text, poem.form(), fault);
        if (fault == 0) {
            now = new State(told);
            last = text;
        }
    }

    private void turn() {
        int ends = now.form.ends;
        int place = any(ends);
        int[] row = now.form.stanza(1);
        int goes = -1;
        for (int p = 0; p < ends; p++) {
            goes = row[p] == place ? p : goes;
        }
        due("turning(" + place + ", 0)", poem.turning(place, 0), goes);
        due("turning(" + place + ", 1)", poem.turning(place, 1), lies(place, ends) ? row[place] : -1);
        long stanza = random.nextBoolean() ? random.nextInt(2 * now.round) : STANZAS[random.nextInt(STANZAS.length)];
        boolean is = stanza >= 0 && stanza <= 1000000000000000L && lies(place, ends);
        int end = is ? now.form.stanza((int) (stanza % now.round))[place] : -1;
        due("end(" + stanza + ", " + place + ")", poem.end(stanza, place), end);
        due("where(" + stanza + ", " + end + ")", poem.where(stanza, end), is ? place : -1);
        due("round(0)", poem.round(0), now.round);
        if (ends <= MOST_ORDERED && random.nextInt(4) == 0) {
            due("roots()", poem.roots(), now.form.roots());
        }
        if (random.nextInt(4) == 0) {
            // A spiral of other ends must leave those of the form as they are.
            due("spiral(200, 0)", poem.spiral(200, 0), 2);
        }
    }

    private void stand() {
        int ends = now.form.ends;
        int a = any(ends);
        int b = any(ends);
        boolean are = lies(a, ends) && lies(b, ends);
        int first = -1;
        for (int s = now.round - 1; s >= 0 && are; s--) {
            first = now.form.stanza(s)[b] == a ? s : first;
        }
        due("meets(" + a + ", " + b + ")", poem.meets(a, b), first);
        due("beside(" + a + ", " + b + ")", poem.beside(a, b), are && a != b ? now.form.beside(a, b) : -1);
        due("rhymes(" + a + ")", poem.rhymes(a), lies(a, ends) ? now.form.rhymes(a) : -1);
    }

    private void words() {
        int words = now.form.words.size();
        int a = any(words);
        int b = any(words);
        int what = any(3);
        boolean are = lies(a, words) && lies(b, words);
        int wanted = lies(a, words) && lies(what, 3) ? now.form.words.get(a)[what] : -1;
        due("word(" + a + ", " + what + ")", poem.word(a, what), wanted);
        due("barred(" + a + ", " + b + ")", poem.barred(a, b), !are ? -1 : now.form.barred(a, b) ? 1 : 0);
    }

    private void fill() {
        int end = any(now.form.ends);
        if (!now.isFilled()) {
            due("fills()", poem.fills(), -1);
            due("fill(" + end + ")", poem.fill(end), -1);
            due("stuck(0)", poem.stuck(0), -1);
            return;
        }
        List<int[]> fills = now.fills();
        if (random.nextBoolean()) {
            due("fills()", poem.fills(), fills.size());
        }
        boolean is = lies(end, now.form.ends) && !fills.isEmpty();
        due("fill(" + end + ")", poem.fill(end), is ? fills.get(0)[end] : -1);
        int what = any(2);
        int stuck = !lies(what, 2) || now.stuck < 0 ? -1 : what == 0 ? Integer.bitCount(now.stuck) : now.stuck;
        due("stuck(" + what + ")", poem.stuck(what), stuck);
    }

    private void layLines() {
        if (random.nextInt(12) == 0) {
            due("clear()", poem.clear() ? 1 : 0, 1);
            now.form.draft.clear();
        }
        int[] words = new int[now.form.ends];
        for (int e = 0; e < words.length; e++) {
            boolean filled = now.isFilled() && !now.fills().isEmpty();
            words[e] = filled ? now.fills().get(now.fills().size() - 1)[e] : any(now.form.words.size());
        }
        for (int i = random.nextInt(2 * words.length + 1); i > 0; i--) {
            int line = now.form.draft.size();
            int end = now.form.stanza(line / words.length % now.round)[line % words.length];
            layLine(random.nextInt(16) > 0 ? words[end] : any(now.form.words.size()), line % words.length);
        }
        int[] judged = now.form.judged();
        due("judged(0)", Checks.judged(poem, 0), judged == null ? -1 : judged[0]);
        due("judged(1)", Checks.judged(poem, 1), judged == null ? 0 : judged[1]);
        int what = any(0);
        due("judged(" + what + ")", Checks.judged(poem, what), THROWN);
    }

    private void layLine(int word, int place) {
        int text = random.nextInt(20) > 0 ? place : any(3);
        int beats = random.nextInt(20) > 0 ? now.form.feet : any(3);
        boolean good = lies(word, now.form.words.size()) && lies(text, 1000) && lies(beats, 100) && now.form.draft.size() < 60;
        if (good) {
            now.form.draft.add(new int[] {word, text, beats});
        }
        due("line(" + word + ", " + text + ", " + beats + ")", poem.line(word, text, beats), good ? now.form.draft.size() : -1);
    }

    private void mend() {
        int ends = now.form.ends;
        int end = any(ends);
        int[] mended = now.isFilled() ? now.form.mended() : null;
        due("mend()", poem.mend(), mended == null ? -1 : mended[ends]);
        due("mended(" + end + ")", poem.mended(end), mended == null || !lies(end, ends) ? -1 : mended[end]);
    }

    private void same() {
        int mark = any(4);
        int place = any(now.form.ends);
        State kept = lies(mark, 4) ? marks[mark] : null;
        if (kept != null && kept.form.ends == now.form.ends && now.form.ends > MOST_ORDERED) {
            return;
        }
        int[] names = kept == null ? null : now.form.renaming(kept.form);
        due("same(" + mark + ")", poem.same(mark), kept == null ? -1 : names == null ? 0 : 1);
        due("renamed(" + mark + ", " + place + ")", poem.renamed(mark, place),
            names == null || !lies(place, now.form.ends) ? -1 : names[place]);
    }

    private void markOrGoBack() {
        int mark = any(4);
        boolean back = random.nextInt(3) == 0;
        boolean good = lies(mark, 4) && (!back || marks[mark] != null);
        due("mark(" + mark + ", " + back + ")", poem.mark(mark, back) ? 1 : 0, good ? 1 : 0);
        if (good && back) {
            now = new State(marks[mark]);
        } else if (good) {
            marks[mark] = new State(now);
        }
    }

    private void counts() {
        Oracle form = now.form;
        int[] all = {form.ends, form.steps, form.rhymes.size(), form.wholes.size(), form.feet, form.words.size(), form.bars,
            form.draft.size(), tape.length()};
        int what = any(all.length);
        due("count(" + what + ")", poem.count(what), lies(what, all.length) ? all[what] : -1);
    }
}
