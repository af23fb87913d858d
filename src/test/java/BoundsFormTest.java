/** The boundaries of promise 3, what a form may say; each test is of one sentence. */
final class BoundsFormTest {
    private static final String WORD = "word a rhyme 1 beats 1 kind 1;";
    private static final String[] KEPT = {"ends", "turn", "spiral", "back", "halves", "thirds", "shift", "swap", "rhyme", "whole", "every",
        "feet", "word", "beats", "kind", "bar", "not", "and", "or"};

    public static void main(String[] args) {
        emptyBehindReading();
        asLongAsCanBe();
        lettersOfWords();
        digitsOfNumbers();
        signs();
        tooLong();
        blanks();
        anyNumberOfLines();
        Steps.all();
        Lines.all();
        Bars.all();
        Faults.all();
        Checks.end();
    }

    /** A form without a fault. */
    private static EndsRound good(String text) {
        return Checks.of(text);
    }

    private static void emptyBehindReading() {
        Checks.sentence(3, "what reads it takes it: it is empty then.");
        EndsRound poem = new EndsRound();
        Checks.due("form() of an empty tape", poem.form(), 1);
        Checks.due("count(8) behind it", poem.count(8), 0);
        Checks.due("form() of a form", Checks.read(poem, "ends 2;"), 0);
        Checks.due("count(8) behind a form", poem.count(8), 0);
        Checks.due("form() again", poem.form(), 1);
        Checks.due("count(0): all stays", poem.count(0), 2);
        Checks.due("form() of a fault", Checks.read(poem, "ends 2;~"), 1 + 16 * 7);
        Checks.due("count(8) behind a fault", poem.count(8), 0);
        Checks.due("form() behind a fault", Checks.read(poem, "ends 3;"), 0);
        Checks.due("count(0)", poem.count(0), 3);
    }

    private static void asLongAsCanBe() {
        Checks.sentence(3, "TOKENS, each as long as can be");
        Checks.fault("ends 3;^turnback;", 1);
        Checks.fault("ends 3;turn ^backback;", 1);
        Checks.fault("ends 3;turn swap 01^;", 1);
        Checks.fault("ends 3;bar ^sorts;", 1);
        Checks.fault("ends 3;bar 1 ^nd 1;", 1);
        Checks.fault("ends ^123;", 4);
        good("ends3;turn back shift 1 shift1back;rhyme 0 1;");
        good("ends 3;word endsa rhyme 1 beats 1 kind 1;word no rhyme 1 beats 1 kind 1;word nota rhyme 1 beats 1 kind 1;");
    }

    private static void lettersOfWords() {
        Checks.sentence(3, "WORDS (letters a .. z, 8 at most)");
        for (char first = 'a'; first <= 'z'; first++) {
            good("ends 3;word " + first + " rhyme 1 beats 1 kind 1;");
            good("ends 3;word " + first + "azbyxyz rhyme 1 beats 1 kind 1;word azbyxyz" + first + " rhyme 1 beats 1 kind 1;");
            Checks.fault("ends 3;word ^" + Character.toUpperCase(first) + " rhyme 1 beats 1 kind 1;", 1);
        }
        Checks.fault("ends 3;word ^` rhyme 1 beats 1 kind 1;", 1);
        Checks.fault("ends 3;word ^{ rhyme 1 beats 1 kind 1;", 1);
        Checks.fault("ends 3;word a^` rhyme 1 beats 1 kind 1;", 1);
        Checks.fault("ends 3;word a^{ rhyme 1 beats 1 kind 1;", 1);
        Checks.fault("ends 3;word aa^A rhyme 1 beats 1 kind 1;", 1);
        Checks.fault("ends 3;word a^_ rhyme 1 beats 1 kind 1;", 1);
        Checks.fault("ends 3;word a^-b rhyme 1 beats 1 kind 1;", 1);
        Checks.fault("ends 3;word a^1 rhyme 1 beats 1 kind 1;", 1);
    }

    private static void digitsOfNumbers() {
        Checks.sentence(3, "NUMBERS (1 to 4 digits; a letter may stand right behind)");
        for (String three : new String[] {"3", "03", "003", "0003"}) {
            Checks.due("count(0) of " + three, good("ends " + three + ";").count(0), 3);
            good("ends " + three + ";bar " + three + "and " + three + "or 1234and 9999or 0or 0000;");
        }
        Checks.fault("ends ^00003;", 1);
        Checks.fault("ends 3;bar ^10000;", 1);
        Checks.fault("ends 3;bar ^00000000000000000001;", 1);
        Checks.fault("ends 3;bar 9999 ^1;", 1);
        Checks.fault("ends 3;bar 1^/;", 1);
        Checks.fault("ends 3;bar 1^:;", 1);
        Checks.fault("ends 3;bar ^/;", 1);
        Checks.fault("ends 3;bar ^:;", 1);
        Checks.fault("ends 3;feet ^;", 1);
        for (char digit = '0'; digit <= '9'; digit++) {
            EndsRound poem = good("ends 3;feet 1" + digit + ";");
            Checks.due("count(4) of 1" + digit, poem.count(4), 10 + digit - '0');
        }
    }

    private static void signs() {
        Checks.sentence(3, "the signs ( ) < = + - * ;");
        good("ends 3;bar(1)<(2);bar(1)=(2);bar(1)+(2)-(3)*(4);");
        for (char sign = '!'; sign <= '~'; sign++) {
            boolean known = "()<=+-*;".indexOf(sign) >= 0 || Character.isLetterOrDigit(sign);
            if (!known) {
                Checks.fault("ends 3;bar 1^" + sign + "1;", 1);
                Checks.fault("ends 3;turn back^" + sign + ";", 1);
            }
        }
        for (char sign : "()<=+-*".toCharArray()) {
            Checks.fault("ends 3;turn back^" + sign + ";", 1);
            Checks.fault("ends 3;^" + sign + "turn back;", 1);
        }
    }

    private static void tooLong() {
        Checks.sentence(3, "All else (a longer WORD or NUMBER, too, at its first sign) is none.");
        good("ends 3;word abcdefgh rhyme 1 beats 1 kind 1;");
        Checks.fault("ends 3;word ^abcdefghi rhyme 1 beats 1 kind 1;", 1);
        Checks.fault("ends 3;word ^" + "abcdefgh".repeat(100) + " rhyme 1 beats 1 kind 1;", 1);
        Checks.fault("ends 3;word abcdefgh ^i rhyme 1 beats 1 kind 1;", 1);
        Checks.fault("ends 3;^aaaaaaaaaaaaturn back;", 1);
        Checks.fault("ends ^" + "0".repeat(990) + ";", 1);
        Checks.fault("ends 3;feet ^00001;", 1);
        // Twelve and more letters: no beginning or end of them is taken for a shorter word.
        Checks.fault("ends 3;turn ^" + "a".repeat(13) + "back;", 1);
        Checks.fault("ends 3;^" + "turn".repeat(4) + " back;", 1);
        Checks.fault("^endsendsends 3;", 1);
        Checks.fault("ends 3;word a rhyme 1 beats 1 kind 1;word ^aaaaaaaaaaaaaaaaa rhyme 1 beats 1 kind 1;", 1);
    }

    private static void blanks() {
        Checks.sentence(3, "blanks (10, 32) between where one likes");
        good("ends 3;");
        good("ends\n3\n;\n");
        good("   \n\n ends \n 3 \n ;  \n turn \n back \n ;\n\n");
        good("ends3;turn shift1back;rhyme0 1;whole0every1;feet1;word a rhyme1beats1kind1;bar(1)and(1)or not(1);");
        good(" ".repeat(993) + "ends 3;");
        Checks.fault(" ^", 1);
        Checks.fault("\n^", 1);
        Checks.fault(" ".repeat(500) + "\n".repeat(500) + "^", 1);
        Checks.fault("^en ds 3;", 1);
        Checks.fault("ends 1 ^2;", 1);
        Checks.fault("^end s 3;", 1);
        Checks.fault("\n\n ^x ends 3;", 1);
    }

    private static void anyNumberOfLines() {
        Checks.sentence(3, "first, N 1 to 12; then any number of");
        Checks.due("count(0) without lines", good("ends 7;").count(0), 7);
        StringBuilder all = new StringBuilder("ends 12;feet 99;");
        for (int i = 0; i < 12; i++) {
            all.append("whole ").append(i).append(" every 99;").append(i < 8 ? "turn back;rhyme 0 11;" : "bar 0;")
                .append("word ").append((char) ('a' + i)).append(" rhyme 99 beats 9 kind 99;");
        }
        EndsRound poem = good(all.toString());
        int[] want = {12, 8, 8, 12, 99, 12, 4, 0, 0, -1};
        for (int what = 0; what < want.length; what++) {
            Checks.due("count(" + what + ") of the fullest form", poem.count(what), want[what]);
        }
        for (int ends = 1; ends <= 12; ends++) {
            Checks.due("count(0)", good("ends " + ends + ";").count(0), ends);
        }
        Checks.fault("ends ^0;", 4);
        Checks.fault("ends ^13;", 4);
        Checks.fault("ends ^0000;", 4);
        Checks.fault("ends ^9999;", 4);
        Checks.fault("ends 12;^ends 12;", 1);
        Checks.fault("^turn back;ends 12;", 1);
    }

    /** What turns the row. */
    private static final class Steps {
        private static void all() {
            oneToEight();
            asTheyStand();
            shifts();
            swaps();
        }

        private static void oneToEight() {
            Checks.sentence(3, "turn: 1 or more STEPS, 8 at most in all lines together (one behind the other as they stand).");
            Checks.fault("ends 3;turn^;", 1);
            Checks.fault("ends 3;turn back;turn^;", 1);
            for (int steps = 1; steps <= 8; steps++) {
                Checks.due("count(1)", good("ends 3;turn" + " back".repeat(steps) + ";").count(1), steps);
                Checks.due("count(1)", good("ends 3;" + "turn back;".repeat(steps)).count(1), steps);
                String lines = "ends 3;turn" + " back".repeat(steps) + ";" + "turn back;".repeat(8 - steps);
                Checks.due("count(1)", good(lines).count(1), 8);
                Checks.fault(lines + "turn ^back;", 5);
                Checks.fault("ends 3;turn" + " back".repeat(8) + " ^back;", 5);
            }
            for (String step : new String[] {"spiral", "back", "halves", "thirds", "shift 1", "swap 0 1"}) {
                Checks.fault("ends 3;turn" + (" " + step).repeat(8) + " ^" + step + ";", 5);
                Checks.due("count(1)", good("ends 3;turn " + step + ";").count(1), 1);
            }
        }

        private static void asTheyStand() {
            Checks.sentence(3, "(one behind the other as they stand)");
            EndsRound poem = good("ends 3;turn shift 1;feet 1;turn swap 0 1;");
            EndsRound other = good("ends 3;turn swap 0 1;rhyme 0 1;turn shift 1;");
            int[] from = {0, 2, 1};
            int[] otherFrom = {2, 1, 0};
            for (int place = 0; place < 3; place++) {
                Checks.due("shift, then swap: turning(" + place + ", 1)", poem.turning(place, 1), from[place]);
                Checks.due("swap, then shift: turning(" + place + ", 1)", other.turning(place, 1), otherFrom[place]);
            }
        }

        private static void shifts() {
            Checks.sentence(3, "shift N (0 to 11)");
            for (int ends = 1; ends <= 12; ends++) {
                good("ends " + ends + ";turn shift 0 shift 11;");
                Checks.fault("ends " + ends + ";turn shift ^12;", 4);
            }
            Checks.fault("ends 3;turn shift ^9999;", 4);
            Checks.fault("ends 3;turn shift ^-1;", 1);
        }

        private static void swaps() {
            Checks.sentence(3, "swap N N (PLACES, 0 to N less 1, not the same)");
            for (int ends = 1; ends <= 12; ends++) {
                int last = ends - 1;
                if (ends > 1) {
                    good("ends " + ends + ";turn swap 0 " + last + " swap " + last + " 0;");
                }
                Checks.fault("ends " + ends + ";turn swap 0 ^" + ends + ";", 4);
                Checks.fault("ends " + ends + ";turn swap ^" + ends + " 0;", 4);
                Checks.fault("ends " + ends + ";turn swap ^" + ends + " " + ends + ";", 4);
                Checks.fault("ends " + ends + ";turn swap " + last + " ^" + last + ";", 3);
                Checks.fault("ends " + ends + ";turn swap 0 ^000;", 3);
                Checks.fault("ends " + ends + ";turn swap 0 ^9999;", 4);
            }
        }
    }

    /** The lines that are no turn and no bar. */
    private static final class Lines {
        private static void all() {
            rhymes();
            wholes();
            feet();
            words();
            names();
        }

        private static void rhymes() {
            Checks.sentence(3, "rhyme: two PLACES, not the same, 8 lines at most.");
            for (int ends = 1; ends <= 12; ends++) {
                int last = ends - 1;
                if (ends > 1) {
                    good("ends " + ends + ";rhyme 0 " + last + ";rhyme " + last + " 0;");
                }
                Checks.fault("ends " + ends + ";rhyme 0 ^" + ends + ";", 4);
                Checks.fault("ends " + ends + ";rhyme ^" + ends + " 0;", 4);
                Checks.fault("ends " + ends + ";rhyme ^" + ends + " " + ends + ";", 4);
                Checks.fault("ends " + ends + ";rhyme " + last + " ^" + last + ";", 3);
            }
            for (int lines = 1; lines <= 8; lines++) {
                Checks.due("count(2)", good("ends 3;" + "rhyme 0 2;".repeat(lines)).count(2), lines);
            }
            Checks.fault("ends 3;" + "rhyme 0 2;".repeat(8) + "^rhyme 0 2;", 5);
            Checks.fault("ends 3;" + "rhyme 0 1;rhyme 1 2;rhyme 2 0;turn back;".repeat(2) + "rhyme 0 1;rhyme 1 2;^rhyme 7 7;", 5);
        }

        private static void wholes() {
            Checks.sentence(3, "whole: a PLACE, once each; every 1 to 99.");
            for (int ends = 1; ends <= 12; ends++) {
                int last = ends - 1;
                EndsRound poem = good("ends " + ends + ";whole " + last + " every 1;" + (last > 0 ? "whole 0 every 99;" : ""));
                Checks.due("count(3)", poem.count(3), Math.min(ends, 2));
                Checks.fault("ends " + ends + ";whole " + last + " every 99;whole ^" + last + " every 1;", 3);
                Checks.fault("ends " + ends + ";whole 0 every 1;whole ^000 every 1;", 3);
                Checks.fault("ends " + ends + ";whole ^" + ends + " every 1;", 4);
                Checks.fault("ends " + ends + ";whole ^9999 every 1;", 4);
                Checks.fault("ends " + ends + ";whole " + last + " every ^0;", 4);
                Checks.fault("ends " + ends + ";whole " + last + " every ^100;", 4);
            }
            Checks.fault("ends 3;whole ^;", 1);
            Checks.fault("ends 3;whole 1^;", 1);
            Checks.fault("ends 3;whole 1 every ^;", 1);
            // Told of the form before does not count.
            EndsRound poem = good("ends 3;whole 1 every 2;");
            Checks.due("form() with the same line", Checks.read(poem, "ends 3;whole 1 every 2;"), 0);
            Checks.due("a fault behind a whole", Checks.read(poem, "ends 3;whole 2 every 2;~"), 1 + 16 * 23);
            Checks.due("form() with that line", Checks.read(poem, "ends 3;whole 2 every 2;"), 0);
        }

        private static void feet() {
            Checks.sentence(3, "feet: 1 to 99, once.");
            Checks.due("count(4)", good("ends 3;feet 1;").count(4), 1);
            Checks.due("count(4)", good("ends 3;feet 99;").count(4), 99);
            Checks.fault("ends 3;feet ^0;", 4);
            Checks.fault("ends 3;feet ^100;", 4);
            Checks.fault("ends 3;feet 1;^feet 1;", 3);
            Checks.fault("ends 3;feet 1;turn back;^feet 0;", 3);
            EndsRound poem = good("ends 3;feet 2;");
            Checks.due("form() with feet again", Checks.read(poem, "ends 3;feet 5;"), 0);
            Checks.due("count(4)", poem.count(4), 5);
            Checks.due("a fault behind feet", Checks.read(poem, "ends 3;feet 2;~"), 1 + 16 * 14);
            Checks.due("count(4): all stays", poem.count(4), 5);
            Checks.due("form() without feet", Checks.read(poem, "ends 3;"), 0);
            Checks.due("count(4): none", poem.count(4), 0);
        }

        private static void words() {
            Checks.sentence(3, "word: 12 at most, numbered as told; rhyme 0 to 99, beats 1 to 9, kind 0 to 99.");
            StringBuilder words = new StringBuilder("ends 3;");
            for (int i = 0; i < 12; i++) {
                words.append("word ").append((char) ('z' - i)).append(" rhyme ").append(99 - i).append(" beats ").append(1 + i % 9)
                    .append(" kind ").append(i).append(';');
                EndsRound poem = good(words.toString());
                Checks.due("count(5)", poem.count(5), i + 1);
                Checks.due("word(" + i + ", 0)", poem.word(i, 0), 99 - i);
                Checks.due("word(" + i + ", 1)", poem.word(i, 1), 1 + i % 9);
                Checks.due("word(" + i + ", 2)", poem.word(i, 2), i);
                Checks.due("word(0, 0)", poem.word(0, 0), 99);
            }
            Checks.fault(words + "^word a rhyme 1 beats 1 kind 1;", 5);
            Checks.fault(words + "bar 1;^word z rhyme 100 beats 0 kind 100;", 5);
            good("ends 3;word a rhyme 0 beats 1 kind 0;word b rhyme 99 beats 9 kind 99;");
            Checks.fault("ends 3;word a rhyme ^100 beats 1 kind 0;", 4);
            Checks.fault("ends 3;word a rhyme 0 beats ^0 kind 0;", 4);
            Checks.fault("ends 3;word a rhyme 0 beats ^10 kind 0;", 4);
            Checks.fault("ends 3;word a rhyme 0 beats 1 kind ^100;", 4);
            Checks.fault("ends 3;word a rhyme ^-1 beats 1 kind 0;", 1);
            Checks.fault("ends 3;word a rhyme 0 beats 1 kind ^9999;", 4);
        }

        private static void names() {
            Checks.sentence(3, "A NAME is another WORD than ends, turn, spiral, back, halves, thirds, shift, swap, rhyme, whole, every, feet,"
                + " word, beats, kind, bar, not, and, or; no two are alike.");
            for (String name : KEPT) {
                Checks.fault("ends 3;word ^" + name + " rhyme 1 beats 1 kind 1;", 1);
                good("ends 3;word " + name.substring(1) + " rhyme 1 beats 1 kind 1;");
                good("ends 3;word " + name + "xx rhyme 1 beats 1 kind 1;");
            }
            Checks.fault("ends 3;" + WORD + "word ^a rhyme 1 beats 1 kind 1;", 3);
            good("ends 3;" + WORD + "word aa rhyme 1 beats 1 kind 1;word b rhyme 1 beats 1 kind 1;word ab rhyme 1 beats 1 kind 1;");
            Checks.fault("ends 3;word abcdefgh rhyme 1 beats 1 kind 1;word abcdefgi rhyme 1 beats 1 kind 1;word ^abcdefgh;", 3);
            Checks.fault("ends 3;word b rhyme 1 beats 1 kind 1;" + WORD + "word ^b rhyme 1 beats 1 kind 1;", 3);
            // Names that are the same but for one letter, at each of eight places, are not alike.
            for (int place = 0; place < 8; place++) {
                for (char first = 'a'; first <= 'z'; first += 12) {
                    StringBuilder text = new StringBuilder("ends 3;");
                    for (char letter = first; letter <= 'z' && letter < first + 12; letter++) {
                        text.append("word ").append("zzzzzzzz", 0, place).append(letter).append("zzzzzzzz", place + 1, 8)
                            .append(" rhyme 1 beats 1 kind 1;");
                    }
                    good(text.toString());
                }
            }
            StringBuilder few = new StringBuilder("ends 3;");
            for (String name : new String[] {"r", "ab", "aa", "q", "b", "ba", "az", "z", "sort", "next", "long", "alike"}) {
                few.append("word ").append(name).append(" rhyme 1 beats 1 kind 1;");
            }
            good(few.toString());
            // The last of twelve names is like the first, or like the last but one.
            StringBuilder ten = new StringBuilder("ends 3;");
            for (char name = 'a'; name <= 'k'; name++) {
                ten.append("word ").append(name).append(" rhyme 1 beats 1 kind 1;");
            }
            Checks.fault(ten + "word ^a rhyme 1 beats 1 kind 1;", 3);
            Checks.fault(ten + "word ^k rhyme 1 beats 1 kind 1;", 3);
            good(ten + "word l rhyme 1 beats 1 kind 1;");
            // A name of the form before, or of a form with a fault, is free.
            EndsRound poem = good("ends 3;" + WORD);
            Checks.due("form() with the same name", Checks.read(poem, "ends 3;" + WORD), 0);
            Checks.due("a fault behind a name", Checks.read(poem, "ends 3;word b rhyme 1 beats 1 kind 1;~"), 1 + 16 * 37);
            Checks.due("form() with that name", Checks.read(poem, "ends 3;word b rhyme 1 beats 1 kind 1;"), 0);
        }
    }

    /** The lines of bars. */
    private static final class Bars {
        private static void all() {
            fourAtMost();
            within();
        }

        private static void fourAtMost() {
            Checks.sentence(3, "bar: 4 at most.");
            for (int bars = 1; bars <= 4; bars++) {
                Checks.due("count(6)", good("ends 3;" + "bar 0;".repeat(bars)).count(6), bars);
            }
            Checks.fault("ends 3;" + "bar 0;".repeat(4) + "^bar 0;", 5);
            Checks.fault("ends 3;" + "bar 0;turn back;".repeat(4) + "^bar;", 5);
            Checks.fault("ends 3;bar ^;", 1);
        }

        private static void within() {
            Checks.sentence(3, "no PART lies within 5 of not and ( )");
            String[] open = {"(", "not "};
            // All ways of four around a PART are fine, all of five are one too many.
            for (int ways = 0; ways < 32; ways++) {
                StringBuilder before = new StringBuilder();
                StringBuilder behind = new StringBuilder();
                for (int i = 0; i < 5; i++) {
                    if (i == 4) {
                        good("ends 3;bar " + before + "1" + behind + ";");
                        good("ends 3;bar " + before + "alike" + behind + " and " + before + "1" + behind + ";");
                    }
                    before.append(open[ways >> i & 1]);
                    behind.append((ways >> i & 1) == 0 ? ")" : "");
                }
                Checks.fault("ends 3;bar " + before + "^1" + behind + ";", 5);
                Checks.fault("ends 3;bar " + before + "^sort" + behind + ";", 5);
                Checks.fault("ends 3;bar " + before + "^not 1" + behind + ";", 5);
                Checks.fault("ends 3;bar " + before + "^(1)" + behind + ";", 5);
                Checks.fault("ends 3;bar " + before + "^;", 1);
            }
            // What stands behind a part that is closed is not within it.
            good("ends 3;bar ((((1))))+((((1))))*((((1))))<not not not not 1 and ((((1))));");
            good("ends 3;bar ((((1)+(2))+(3))+(4))+(5);");
            Checks.fault("ends 3;bar ((((1)+(2))+(3))+((((^4))))+(5);", 5);
        }
    }

    /** What is told of a fault. */
    private static final class Faults {
        private static void all() {
            places();
            theEnd();
            theLeast();
            kindOne();
            kindThree();
            kindFour();
            kindFive();
            withoutFault();
            allStays();
        }

        private static void places() {
            Checks.sentence(3, "FAULTS, kind + 16 * the place (from 0) of a token");
            Checks.fault("^~", 1);
            Checks.fault("^3 ends;", 1);
            for (int place = 1; place < 1000; place += 83) {
                Checks.fault(" ".repeat(place) + "^~", 1);
                Checks.fault("\n".repeat(place) + "^~" + " ".repeat(999 - place), 1);
            }
            Checks.fault("ends 3;turn swap 1" + " ".repeat(980) + "^1", 3);
            Checks.fault("ends 3;turn shift" + " ".repeat(981) + "^12", 4);
            Checks.fault("ends 3;" + "bar 1;".repeat(4) + " ".repeat(966) + "^bar", 5);
            Checks.fault("ends 3;" + " ".repeat(992) + "^~", 1);
        }

        private static void theEnd() {
            Checks.sentence(3, "the end being one at the text's length");
            String text = "ends 3;turn swap 0 1;rhyme 0 1;whole 0 every 1;feet 1;word a rhyme 1 beats 1 kind 1;bar not(1)<1;";
            good(text);
            for (int length = 0; length <= text.length(); length++) {
                String cut = text.substring(0, length);
                boolean whole = cut.endsWith(";");
                Checks.due("form() of " + cut, Checks.read(new EndsRound(), cut + " "), whole ? 0 : faultOfCut(text, cut, length + 1));
                Checks.due("form() of " + cut, Checks.read(new EndsRound(), cut), whole ? 0 : faultOfCut(text, cut, length));
            }
        }

        // A key that is cut short is wrong itself; else the end is.
        private static int faultOfCut(String text, String cut, int end) {
            int start = cut.length();
            while (start > 0 && Character.isLetter(cut.charAt(start - 1))) {
                start--;
            }
            boolean broken = start < cut.length() && Character.isLetter(text.charAt(cut.length()));
            return 1 + 16 * (broken ? start : end);
        }

        private static void theLeast() {
            Checks.sentence(3, "of the first token from the left that is wrong the least");
            // 1 before 5: it can't stand there, and it would be one too many.
            Checks.fault("ends 3;bar (((((^turn;", 1);
            Checks.fault("ends 3;turn" + " back".repeat(8) + "^12;", 1);
            // 1 before 4: too long, and beyond.
            Checks.fault("ends ^99999;", 1);
            Checks.fault("ends 3;whole 1 every ^10000;", 1);
            // 3 before 4, as far as can be: the one that is told is one that may be told.
            Checks.fault("ends 3;feet 2;^feet 0;", 3);
            // What stands behind does not count.
            Checks.fault("ends ^0;ends 0;~", 4);
            Checks.fault("ends 3;turn swap 1 ^1 ~;", 3);
            Checks.fault("ends 3;turn swap ^3 ~;", 4);
            Checks.fault("ends 3;" + "bar 1;".repeat(4) + "^bar ~;", 5);
            Checks.fault("ends 3;^~ends 3;turn swap 1 1;", 1);
        }

        private static void kindOne() {
            Checks.sentence(3, "1 it is none, or can't stand there (another line than ends first, ends again)");
            Checks.fault("^~", 1);
            Checks.fault("^", 1);
            for (String key : KEPT) {
                if (!key.equals("ends")) {
                    Checks.fault("^" + key + " 3;", 1);
                }
                if (!" turn rhyme whole feet word bar ".contains(" " + key + " ")) {
                    Checks.fault("ends 3;^" + key + " 3;", 1);
                }
                Checks.fault("ends ^" + key + ";", 1);
                Checks.fault("ends 3^" + key + ";", 1);
            }
            Checks.fault("ends 3;turn back;^ends 3;", 1);
            Checks.fault("ends 3;^ends;", 1);
            Checks.fault("^;ends 3;", 1);
            Checks.fault("ends 3;^;", 1);
            Checks.fault("ends 3;turn back;^;", 1);
            Checks.fault("ends 3;^name;", 1);
            Checks.fault("ends 3;^sort;", 1);
        }

        private static void kindThree() {
            Checks.sentence(3, "3 the second PLACE of swap or rhyme that is the first one; a PLACE of whole, a word's NAME that is told;"
                + " the word feet a second time");
            Checks.fault("ends 12;turn swap 11 ^11;", 3);
            Checks.fault("ends 1;turn swap 0 ^0;", 3);
            Checks.fault("ends 12;rhyme 11 ^11;", 3);
            Checks.fault("ends 1;rhyme 0 ^0;", 3);
            Checks.fault("ends 12;whole 11 every 1;whole ^11 every 1;", 3);
            Checks.fault("ends 1;whole 0 every 1;whole ^0 every 1;", 3);
            Checks.fault("ends 1;" + WORD + "word ^a rhyme 1 beats 1 kind 1;", 3);
            Checks.fault("ends 1;feet 99;^feet 99;", 3);
            good("ends 2;turn swap 1 0 swap 1 0;rhyme 1 0;rhyme 1 0;whole 0 every 1;whole 1 every 1;");
        }

        private static void kindFour() {
            Checks.sentence(3, "4 a NUMBER that is not as told");
            Checks.fault("ends ^0;", 4);
            Checks.fault("ends ^13;", 4);
            Checks.fault("ends 1;turn shift ^12;", 4);
            Checks.fault("ends 1;turn swap ^1 1;", 4);
            Checks.fault("ends 1;turn swap 0 ^1;", 4);
            Checks.fault("ends 1;rhyme ^1 1;", 4);
            Checks.fault("ends 1;rhyme 0 ^1;", 4);
            Checks.fault("ends 1;whole ^1 every 1;", 4);
            Checks.fault("ends 1;whole 0 every ^0;", 4);
            Checks.fault("ends 1;whole 0 every ^100;", 4);
            Checks.fault("ends 1;feet ^0;", 4);
            Checks.fault("ends 1;feet ^100;", 4);
            Checks.fault("ends 1;word a rhyme ^100 beats 1 kind 1;", 4);
            Checks.fault("ends 1;word a rhyme 1 beats ^0 kind 1;", 4);
            Checks.fault("ends 1;word a rhyme 1 beats ^10 kind 1;", 4);
            Checks.fault("ends 1;word a rhyme 1 beats 1 kind ^100;", 4);
            good("ends 1;bar 9999;bar 0;");
        }

        private static void kindFive() {
            Checks.sentence(3, "5 one too many: the ninth STEP, the words rhyme of a ninth line, word of a 13th, bar of a fifth;"
                + " not, or a PART, within 5 others");
            Checks.fault("ends 2;turn back;turn back back back back back back back ^back;", 5);
            Checks.fault("ends 2;" + "rhyme 0 1;".repeat(8) + "^rhyme", 5);
            StringBuilder words = new StringBuilder("ends 2;");
            for (char name = 'a'; name <= 'l'; name++) {
                words.append("word ").append(name).append(" rhyme 1 beats 1 kind 1;");
            }
            Checks.fault(words + "^word", 5);
            Checks.fault("ends 2;" + "bar 1;".repeat(4) + "^bar", 5);
            Checks.fault("ends 2;bar not not not not not ^not 1;", 5);
            Checks.fault("ends 2;bar not not not not not ^1;", 5);
            Checks.fault("ends 2;bar (((((^1)))));", 5);
            Checks.fault("ends 2;bar (((((^(1))))));", 5);
            // Of a form with a fault nothing is counted in the next one.
            EndsRound poem = new EndsRound();
            String most = "ends 2;turn" + " back".repeat(8) + ";" + "rhyme 0 1;".repeat(8) + "bar 0;".repeat(4);
            Checks.due("the fault of an end", Checks.read(poem, most + "feet"), 1 + 16 * (most.length() + 4));
            Checks.due("the same without it", Checks.read(poem, most), 0);
            Checks.due("and again", Checks.read(poem, most), 0);
        }

        private static void withoutFault() {
            Checks.sentence(3, "Without a FAULT it is the FORM from then on (the DRAFT is empty then; MARKS stay).");
            EndsRound poem = good("ends 2;turn back;rhyme 0 1;whole 0 every 1;feet 1;" + WORD + "bar 1;");
            poem.line(0, 0, 0);
            poem.mark(0, false);
            Checks.due("count(7)", poem.count(7), 1);
            Checks.due("the same form again", Checks.read(poem, "ends 2;turn back;rhyme 0 1;whole 0 every 1;feet 1;" + WORD + "bar 1;"), 0);
            Checks.due("count(7): the draft is empty", poem.count(7), 0);
            Checks.due("same(0): the mark stays", poem.same(0), 1);
            Checks.due("the least form", Checks.read(poem, "ends 1;"), 0);
            int[] want = {1, 0, 0, 0, 0, 0, 0, 0, 0};
            for (int what = 0; what < want.length; what++) {
                Checks.due("count(" + what + ")", poem.count(what), want[what]);
            }
            Checks.due("turning(0, 0): no step", poem.turning(0, 0), 0);
            Checks.due("rhymes(0)", poem.rhymes(0), 0);
            Checks.due("word(0, 0)", poem.word(0, 0), -1);
            Checks.due("gone back to the mark", poem.mark(0, true), true);
            Checks.due("count(7) of the mark", poem.count(7), 1);
            Checks.due("barred(0, 0) of the mark", poem.barred(0, 0), 1);
            nothingOfTheFormBefore();
        }

        // Each call is asked before the new form and behind it.
        private static void nothingOfTheFormBefore() {
            EndsRound poem = good("ends 3;turn shift 1;rhyme 0 2;bar next<sort;" + BoundsWordsTest.words(1, 1, 1));
            int[] before = {2, 0, 1, 3, 7, 1};
            int[] behind = {1, 1, 0, -1, -1, 0};
            asked(poem, before);
            Checks.due("mended(0)", poem.mended(0), 0);
            Checks.due("another form", Checks.read(poem, "ends 3;rhyme 1 2;" + BoundsWordsTest.words(1, 2)), 0);
            asked(poem, new int[] {1, 1, 0, 2, 6, 0});
            Checks.due("mended(0)", poem.mended(0), -1);
            Checks.due("a third form", Checks.read(poem, "ends 3;" + BoundsWordsTest.words(1, 2, 3)), 0);
            asked(poem, behind);
            Checks.due("mended(0)", poem.mended(0), 0);
            Checks.due("a form with less of all", Checks.read(poem, "ends 2;" + BoundsWordsTest.words(1, 2)), 0);
            asked(poem, behind);
        }

        private static void asked(EndsRound poem, int[] want) {
            Checks.due("beside(0, 1)", poem.beside(0, 1), want[0]);
            Checks.due("rhymes(1)", poem.rhymes(1), want[1]);
            Checks.due("turning(0, 0)", poem.turning(0, 0), want[2]);
            Checks.due("stuck(0)", poem.stuck(0), want[3]);
            Checks.due("stuck(1)", poem.stuck(1), want[4]);
            Checks.due("fill(0)", poem.fill(0), want[4] < 0 ? 0 : -1);
            Checks.due("fills() is 0", poem.fills() == 0, want[4] >= 0);
            Checks.due("barred(1, 0)", poem.barred(1, 0), want[5]);
        }

        private static void allStays() {
            Checks.sentence(3, "The TAPE is read as a FORM: 0, or its FAULT (all stays then).");
            EndsRound poem = good("ends 2;turn back;rhyme 0 1;whole 0 every 2;feet 7;word a rhyme 3 beats 4 kind 5;bar 1;");
            poem.line(0, 1, 7);
            poem.mark(2, false);
            int[] want = {2, 1, 1, 1, 7, 1, 1, 1, 0};
            String[] wrong = {"", "ends 0;", "ends 3;turn", "ends 3;turn spiral;rhyme 0 0;", "ends 5;bar 0;bar 0;bar 0;bar 0;bar 0;",
                "ends 1;word b rhyme 1 beats 1 kind 1;word c rhyme 1 beats 1 kind 1;whole 1", "ends 4;feet 9;whole 1 every 1;~"};
            for (String text : wrong) {
                Checks.due("a fault in " + text, Checks.read(poem, text) == 0, false);
                for (int what = 0; what < want.length; what++) {
                    Checks.due("count(" + what + ") behind " + text, poem.count(what), want[what]);
                }
                Checks.due("turning(0, 0) behind " + text, poem.turning(0, 0), 1);
                Checks.due("rhymes(1) behind " + text, poem.rhymes(1), 0);
                Checks.due("word(0, 0) behind " + text, poem.word(0, 0), 3);
                Checks.due("word(0, 1) behind " + text, poem.word(0, 1), 4);
                Checks.due("word(0, 2) behind " + text, poem.word(0, 2), 5);
                Checks.due("barred(0, 0) behind " + text, poem.barred(0, 0), 1);
                Checks.due("stuck(1) behind " + text, poem.stuck(1), 3);
                Checks.due("judged(0) behind " + text, Checks.judged(poem, 0), -1);
                Checks.due("same(2) behind " + text, poem.same(2), 1);
            }
        }
    }
}
