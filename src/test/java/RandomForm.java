import java.util.ArrayList;
import java.util.Collections;
import java.util.List;
import java.util.Random;

/** Texts of forms, most of them without a fault. */
final class RandomForm {
    private final Random random;

    RandomForm(Random random) {
        this.random = random;
    }

    int upTo(int most) {
        return random.nextInt(most + 1);
    }

    String pick(String... all) {
        return all[random.nextInt(all.length)];
    }

    String text(int ends) {
        List<String> lines = new ArrayList<>();
        for (int i = upTo(3); i > 0; i--) {
            lines.add((lines.isEmpty() || random.nextBoolean() ? turn(ends) : "turn back") + ";");
        }
        for (int i = upTo(2) * upTo(2); i > 0 && ends > 1; i--) {
            lines.add("rhyme" + pair(ends) + ";");
        }
        for (int p = 0; p < ends; p++) {
            if (upTo(3) == 0) {
                lines.add("whole " + p + " every " + (1 + upTo(2)) + ";");
            }
        }
        if (upTo(2) == 0) {
            lines.add("feet " + (1 + upTo(1)) + ";");
        }
        for (int i = upTo(Math.min(12, ends + 3)), rhymes = upTo(3); i > 0; i--) {
            lines.add("word w" + (char) ('a' + i) + " rhyme " + upTo(rhymes) + " beats " + (1 + upTo(4)) + " kind " + upTo(5) + ";");
        }
        for (int i = upTo(2); i > 0; i--) {
            lines.add("bar " + tests(0) + ";");
        }
        Collections.shuffle(lines, random);
        return "ends " + ends + ";" + String.join("", lines);
    }

    private String turn(int ends) {
        StringBuilder turn = new StringBuilder("turn");
        for (int k = upTo(2); k >= 0; k--) {
            String step = pick("spiral", "back", "halves", "thirds", "shift", "swap");
            turn.append(' ').append(step.equals("swap") && ends < 2 ? "back" : step);
            if (step.equals("shift")) {
                turn.append(' ').append(upTo(11));
            } else if (step.equals("swap") && ends > 1) {
                turn.append(pair(ends));
            }
        }
        return turn.toString();
    }

    private String pair(int ends) {
        int a = upTo(ends - 1);
        int b = (a + 1 + upTo(ends - 2)) % ends;
        return " " + a + " " + b;
    }

    private String tests(int depth) {
        StringBuilder text = new StringBuilder(test(depth));
        for (int i = upTo(2); i > 0; i--) {
            text.append(pick(" and ", " or ")).append(test(depth));
        }
        return text.toString();
    }

    private String test(int depth) {
        return sum(depth) + (upTo(2) > 0 ? pick("<", "=") + sum(depth) : "");
    }

    private String sum(int depth) {
        StringBuilder text = new StringBuilder(part(depth));
        for (int i = upTo(2) * upTo(1); i > 0; i--) {
            text.append(pick("+", "-", "*")).append(part(depth));
        }
        return text.toString();
    }

    private String part(int depth) {
        int what = upTo(depth < 2 ? 9 : 7);
        if (what == 8) {
            return " not " + part(depth + 1);
        }
        if (what == 9) {
            return "(" + tests(depth + 1) + ")";
        }
        return what < 3 ? String.valueOf(upTo(what == 0 ? 9999 : 5)) : pick("sort", "next", "long", "short", "alike");
    }

    /** A text with one or two tokens left out, doubled or made another one. */
    String spoilt(String good) {
        StringBuilder text = new StringBuilder(good);
        for (int i = upTo(2); i > 0; i--) {
            int at = upTo(text.length() - 1);
            String other = pick(";", " 3 ", " 0", "00000 ", "not ", "(", ")", "-", " back ", "turn back;", "bar 1;", "rhyme 0 1;",
                "feet 3;", "whole 1 every 2;", "word wb rhyme 1 beats 1 kind 2;", "ends 2;", "A", "\n", ".", "sort", "<", "=", "+",
                " and ", " or ", " every ", "((((", "not not not ", "bar 1;bar 2;bar 3;", "turn back back back back back;",
                "rhyme 0 1;rhyme 0 1;rhyme 0 1;rhyme 0 1;rhyme 0 1;", "swap", "shift", "abcdefgh", " 13 ", " 12 ");
            if (random.nextBoolean()) {
                text.insert(at, other);
            } else {
                text.replace(at, Math.min(text.length(), at + 1 + upTo(6)), other);
            }
        }
        return text.length() > 1000 ? text.substring(0, 1000) : text.toString();
    }
}
