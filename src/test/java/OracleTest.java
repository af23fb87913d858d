import java.util.ArrayList;
import java.util.Arrays;
import java.util.List;
import java.util.Random;

/** All promises: random forms, drafts and marks, each answer compared with the oracle's. */
final class OracleTest {
    private static final Random RANDOM = new Random(20261118);
    private static final RandomForm FORMS = new RandomForm(RANDOM);

    public static void main(String[] args) {
        for (int i = 0; i < 1500; i++) {
            one(i);
        }
        for (int i = 0; i < 2000; i++) {
            regular();
        }
        for (int i = 0; i < 30000; i++) {
            faults();
        }
        Checks.end();
    }

    private static int upTo(int most) {
        return FORMS.upTo(most);
    }

    private static void one(int number) {
        // Few ends where the oracle goes through all orders of them.
        int ends = 1 + upTo(5);
        String text = FORMS.text(ends);
        Oracle want = new Oracle();
        EndsRound poem = new EndsRound();
        int fault = want.read(text);
        Checks.due("fault of " + text, Checks.read(poem, text), fault);
        if (fault != 0) {
            return;
        }
        // An object is for 512 calls: a new one for each of these.
        places(poem, want, text);
        words(Checks.of(text), want, text);
        draft(Checks.of(text), want, text);
        if (number % 3 == 0) {
            sameAs(Checks.of(text), want, text);
        }
    }

    private static void places(EndsRound poem, Oracle want, String text) {
        int round = want.round();
        Checks.due("round of " + text, poem.round(0), round);
        Checks.due("roots of " + text, poem.roots(), want.roots());
        for (int s = 0; s < 2 * round; s++) {
            int[] row = want.stanza(s);
            for (int p = 0; p < want.ends; p++) {
                Checks.due("end(" + s + ", " + p + ") of " + text, poem.end(s, p), row[p]);
                Checks.due("where(" + s + ", " + row[p] + ") of " + text, poem.where(s, row[p]), p);
            }
        }
        for (int e = 0; e < want.ends; e++) {
            Checks.due("class of " + e + " of " + text, poem.rhymes(e), want.rhymes(e));
            for (int f = 0; f < want.ends; f++) {
                int first = -1;
                for (int s = round - 1; s >= 0; s--) {
                    first = want.stanza(s)[f] == e ? s : first;
                }
                Checks.due("meets(" + e + ", " + f + ") of " + text, poem.meets(e, f), first);
                Checks.due("beside(" + e + ", " + f + ") of " + text, poem.beside(e, f), e == f ? -1 : want.beside(e, f));
            }
        }
    }

    private static void words(EndsRound poem, Oracle want, String text) {
        for (int a = 0; a < want.words.size(); a++) {
            for (int b = 0; b < want.words.size(); b++) {
                Checks.due("barred(" + a + ", " + b + ") of " + text, poem.barred(a, b), want.barred(a, b) ? 1 : 0);
            }
            for (int what = 0; what < 3; what++) {
                Checks.due("word(" + a + ", " + what + ") of " + text, poem.word(a, what), want.words.get(a)[what]);
            }
        }
        List<int[]> fills = want.fills((1 << want.ends) - 1);
        if (RANDOM.nextBoolean()) {
            Checks.due("fills of " + text, poem.fills(), fills.size());
        }
        for (int e = 0; e < want.ends; e++) {
            Checks.due("fill(" + e + ") of " + text, poem.fill(e), fills.isEmpty() ? -1 : fills.get(0)[e]);
        }
        Checks.due("fills of " + text, poem.fills(), fills.size());
        int stuck = fills.isEmpty() ? want.stuck() : -1;
        Checks.due("stuck(0) of " + text, poem.stuck(0), stuck < 0 ? -1 : Integer.bitCount(stuck));
        Checks.due("stuck(1) of " + text, poem.stuck(1), stuck);
    }

    private static void draft(EndsRound poem, Oracle want, String text) {
        List<int[]> fills = want.fills((1 << want.ends) - 1);
        int lines = want.words.isEmpty() ? 0 : upTo(20);
        for (int i = 0; i < lines; i++) {
            int word = upTo(want.words.size() - 1);
            int feet = want.feet;
            if (!fills.isEmpty() && upTo(15) > 0) {
                word = fills.get(fills.size() / 2)[want.stanza(i / want.ends)[i % want.ends]];
            }
            int[] line = {word, upTo(9) == 0 ? 8 : i % want.ends, upTo(19) == 0 ? 7 : feet};
            want.draft.add(line);
            poem.line(line[0], line[1], line[2]);
            int[] judged = want.judged();
            String name = " of " + text + lines(want);
            Checks.due("judged(0)" + name, Checks.judged(poem, 0), judged == null ? -1 : judged[0]);
            Checks.due("judged(1)" + name, Checks.judged(poem, 1), judged == null ? 0 : judged[1]);
            if (upTo(4) == 0) {
                mend(poem, want, name);
            }
        }
        mend(poem, want, " of " + text + lines(want));
    }

    private static String lines(Oracle want) {
        StringBuilder all = new StringBuilder();
        for (int[] line : want.draft) {
            all.append(Arrays.toString(line));
        }
        return all.toString();
    }

    private static void mend(EndsRound poem, Oracle want, String name) {
        int[] mended = want.mended();
        Checks.due("mend()" + name, poem.mend(), mended == null ? -1 : mended[want.ends]);
        for (int e = 0; e < want.ends; e++) {
            Checks.due("mended(" + e + ")" + name, poem.mended(e), mended == null ? -1 : mended[e]);
        }
    }

    private static void sameAs(EndsRound poem, Oracle want, String text) {
        int mark = upTo(3);
        for (int[] line : want.draft) {
            poem.line(line[0], line[1], line[2]);
        }
        poem.mark(mark, false);
        int lines = poem.count(7);
        // As often as not the same form under other names, told by other steps.
        for (int i = 0; i < 3; i++) {
            String other = i == 2 ? FORMS.text(want.ends) : renamed(want, i == 1);
            Oracle there = new Oracle();
            int fault = there.read(other);
            Checks.due("fault of " + other, Checks.read(poem, other), fault);
            if (fault != 0) {
                continue;
            }
            int[] names = there.renaming(want);
            Checks.due(other + " same as " + text, poem.same(mark), names == null ? 0 : 1);
            for (int p = 0; p < there.ends; p++) {
                Checks.due(other + " renamed as " + text + " " + p, poem.renamed(mark, p), names == null ? -1 : names[p]);
            }
            poem.line(0, 0, 0);
        }
        poem.mark(mark, true);
        Checks.due("lines of a mark", lines, want.draft.size());
        Checks.due("lines of a mark, gone back to", poem.count(7), lines);
        int[] judged = want.judged();
        Checks.due("judged of a mark", Checks.judged(poem, 1), judged == null ? 0 : judged[1]);
        if (upTo(1) == 0) {
            places(poem, want, text);
        } else {
            words(poem, want, text);
        }
        mend(poem, want, " of a mark " + text);
    }

    /** A form's turning, rhymes and wholes with other names of its places, or nearly so. */
    private static String renamed(Oracle form, boolean nearly) {
        List<Integer> names = new ArrayList<>();
        for (int p = 0; p < form.ends; p++) {
            names.add(p);
        }
        java.util.Collections.shuffle(names, RANDOM);
        StringBuilder text = new StringBuilder("ends " + form.ends + ";");
        int[] due = new int[form.ends];
        for (int p = 0; p < form.ends; p++) {
            due[names.get(p)] = names.get(form.from[p]);
        }
        List<Integer> row = new ArrayList<>();
        for (int p = 0; p < form.ends; p++) {
            row.add(p);
        }
        for (int p = 0; p < form.ends; p++) {
            int q = row.indexOf(due[p]);
            if (q != p) {
                text.append("turn swap ").append(p).append(' ').append(q).append(';');
                java.util.Collections.swap(row, p, q);
            }
        }
        for (int[] pair : form.rhymes) {
            int b = nearly && upTo(3) == 0 ? (pair[0] + 1) % form.ends : pair[1];
            text.append("rhyme ").append(names.get(b)).append(' ').append(names.get(pair[0])).append(';');
        }
        for (int[] whole : form.wholes) {
            text.append("whole ").append(names.get(whole[0])).append(" every ")
                .append(nearly && upTo(3) == 0 ? 3 : whole[1]).append(';');
        }
        return text + "word a rhyme 1 beats 1 kind 1;";
    }

    /** Two forms of six or seven places, each of which is like many others of its form. */
    private static void regular() {
        int ends = 6 + upTo(1);
        String turn = FORMS.pick("", "swap 0 1 swap 2 3", "swap 0 1 swap 2 3 swap 4 5", "swap 0 1 swap 1 2 swap 3 4 swap 4 5");
        String pairs = FORMS.pick("010212", "01120334 4553", "011220344553", "01", "0123", "012345", "0112233445", "01122330", "031425", "0314250145");
        Oracle here = regular(ends, turn, pairs);
        Oracle there = regular(ends, upTo(4) == 0 ? FORMS.pick(turn, "") : turn, upTo(4) == 0 ? "0123" : pairs);
        String first = renamed(here, false);
        String second = renamed(there, false);
        EndsRound poem = Checks.of(second);
        poem.mark(0, false);
        Checks.due("fault of " + first, Checks.read(poem, first), 0);
        Oracle one = new Oracle();
        one.read(first);
        Oracle other = new Oracle();
        other.read(second);
        int[] names = one.renaming(other);
        Checks.due(first + " same as " + second, poem.same(0), names == null ? 0 : 1);
        for (int p = 0; p < ends; p++) {
            Checks.due(first + " renamed as " + second + " " + p, poem.renamed(0, p), names == null ? -1 : names[p]);
        }
    }

    private static Oracle regular(int ends, String turn, String pairs) {
        StringBuilder text = new StringBuilder("ends " + ends + ";" + (turn.isEmpty() ? "" : "turn " + turn + ";"));
        String places = pairs.replace(" ", "");
        for (int i = 0; i + 1 < places.length(); i += 2) {
            text.append("rhyme ").append(places.charAt(i)).append(' ').append(places.charAt(i + 1)).append(';');
        }
        Oracle form = new Oracle();
        Checks.due("fault of " + text, form.read(text.toString()), 0);
        return form;
    }

    private static void faults() {
        String text = FORMS.spoilt(FORMS.text(1 + upTo(11)));
        int want = new Oracle().read(text);
        EndsRound poem = new EndsRound();
        Checks.due("fault of " + text, Checks.read(poem, text), want);
    }
}
