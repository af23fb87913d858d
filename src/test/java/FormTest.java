/** Promise 3: what a form may say, and the faults of what it may not. */
final class FormTest {
    private static final String FIVE = "not ( not ( not ";

    public static void main(String[] args) {
        Checks.due("no text", new EndsRound().form(), 1);
        good();
        misplaced();
        told();
        beyond();
        tooMany();
        Checks.end();
    }

    private static void good() {
        String[] texts = {
            "ends 1;", "ends 12;", "\n ends\n0012 ; ", "ends3;turn shift 11spiral swap 0 2back;",
            "ends 2;turn shift 0;turn shift 11;", "ends 2;rhyme 0 1;rhyme 1 0;rhyme 0 1;",
            "ends 2;word sort rhyme 0 beats 1 kind 0;word alike rhyme 99 beats 9 kind 99;word a rhyme 1 beats 1 kind 1;",
            "ends 2;word abcdefgh rhyme 0001 beats 01 kind 1;word abcdefg rhyme 1 beats 1 kind 1;",
            "ends 1;bar 9999;bar 0000;bar((((alike))));bar not not not not sort;",
            "ends 1;bar " + FIVE.substring(0, 12) + "1 ) ) and ( ( ( ( 1 ) ) ) );",
            "ends 1;bar sort+next*long-short<1*2 and 1=2 or alike;",
            "ends 1;word azbz rhyme 1 beats 1 kind 1;word az rhyme 1 beats 1 kind 1;",
            "ends 2;bar 1;feet 1;whole 1 every 99;rhyme 0 1;turn back;feet2", "ends 1;word w0rhyme1beats1kind1;",
        };
        for (String text : texts) {
            int want = text.endsWith("feet2") ? 3 + 16 * text.indexOf("feet2")
                : text.contains("w0rhyme") ? 1 + 16 * text.indexOf("0rhyme") : 0;
            Checks.due("form of '" + text + "'", Checks.read(new EndsRound(), text), want);
        }
    }

    private static void misplaced() {
        String[] texts = {
            "^", " ^", "ends ^", "ends 3^", "ends 3 ^", "^3;", "ends3^", "^Ends 3;", "ends 3^,", "ends ^-1;", "^;ends 3;",
            "^turn back;", "ends 3;^ends 3;", "ends 3;turn ^;", "ends 3;turn back shift^;", "ends 3;turn back^",
            "ends 3;^shift 1;", "ends 3;^;", "ends 3;^3;", "ends 3;^name;", "ends 3;^abcdefghi;",
            "ends ^12345;", "ends ^00003;", "ends 3;turn shift ^;", "ends 3;turn shift 1 ^2;", "ends 3;turn swap 1 ^;",
            "ends 3;turn swap 1^", "ends 3;turn ^turn back;", "ends 3;turn back;rhyme ^;", "ends 3;rhyme 0 ^back;",
            "ends 3;rhyme 0 1 ^2;", "ends 3;whole 1 ^2;", "ends 3;whole 1 ^rhyme 2;", "ends 3;whole 1 every ^;",
            "ends 3;feet ^;", "ends 3;feet 1^", "ends 3;word ^1;", "ends 3;word ^;", "ends 3;word ^or rhyme 1 beats 1 kind 1;",
            "ends 3;word ^word rhyme 1 beats 1 kind 1;", "ends 3;word ^abcdefghi rhyme 1 beats 1 kind 1;",
            "ends 3;word a ^beats 1;", "ends 3;word a rhyme 1 ^kind 1 beats 1;", "ends 3;word a rhyme 1 beats 1 ^;",
            "ends 3;word a rhyme 1 beats 1 kind ^a;", "ends 3;word a rhyme 1 beats 1 kind 1 ^word;",
            "ends 3;bar ^;", "ends 3;bar^", "ends 3;bar ^kind;", "ends 3;bar ^name;", "ends 3;bar 1 ^1;", "ends 3;bar 1<2^=1;",
            "ends 3;bar 1=2^=1;", "ends 3;bar ^-1;", "ends 3;bar 1+^;", "ends 3;bar 1 ^not 1;", "ends 3;bar (1^;", "ends 3;bar (1<2^<3);",
            "ends 3;bar 1^);", "ends 3;bar (^);", "ends 3;bar not^", "ends 3;bar not ^and 1;", "ends 3;bar 1 and ^or 1;",
            "ends 3;bar ^12345;", "ends 3;bar 1^/2;", "ends 3;bar 1^>2;", "ends 3;bar 1*^*2;", "ends 3;bar (((((^;",
            "ends 3;turn back back back back back back back back ^halve;",
        };
        for (String text : texts) {
            Checks.fault(text, 1);
        }
        String[] reserved = {"ends", "turn", "spiral", "back", "halves", "thirds", "shift", "swap", "rhyme", "whole",
            "every", "feet", "word", "beats", "kind", "bar", "not", "and", "or"};
        for (String name : reserved) {
            Checks.fault("ends 3;word ^" + name + " rhyme 1 beats 1 kind 1;", 1);
        }
    }

    private static void told() {
        String[] texts = {
            "ends 3;turn swap 2 ^2;", "ends 1;turn swap 0 ^0;", "ends 3;rhyme 2 ^0002;", "ends 3;whole 0 every 1;whole ^0 every 1;",
            "ends 3;feet 1;^feet 1;", "ends 3;feet 1;^feet;", "ends 3;word a rhyme 1 beats 1 kind 1;word ^a;",
            "ends 3;word sort rhyme 1 beats 1 kind 1;word b rhyme 1 beats 1 kind 1;word ^sort rhyme 1 beats 1 kind 1;",
        };
        for (String text : texts) {
            Checks.fault(text, 3);
        }
    }

    private static void beyond() {
        String[] texts = {
            "ends ^0;", "ends ^13;", "ends ^9999;", "ends 3;turn shift ^12;", "ends 3;turn swap ^3 3;", "ends 3;turn swap 0 ^3;",
            "ends 1;turn swap 0 ^1;", "ends 3;rhyme ^3 3;", "ends 3;rhyme 0 ^3;", "ends 3;whole ^3 every 1;",
            "ends 3;whole 1 every ^0;", "ends 3;whole 1 every ^100;", "ends 3;feet ^0;", "ends 3;feet ^100;",
            "ends 3;word a rhyme ^100 beats 0 kind 1;", "ends 3;word a rhyme 1 beats ^0 kind 1;",
            "ends 3;word a rhyme 1 beats ^10 kind 1;", "ends 3;word a rhyme 1 beats 1 kind ^100;", "ends 3;whole ^12 every 1;",
        };
        for (String text : texts) {
            Checks.fault(text, 4);
        }
    }

    private static void tooMany() {
        Checks.fault("ends 3;turn back back back back;turn back back back back ^back;", 5);
        Checks.fault("ends 3;turn back back back back;turn back back back back;turn ^shift;", 5);
        Checks.fault("ends 3;turn back back back back;turn back back back back;turn ^;", 1);
        Checks.fault("ends 3;" + "rhyme 0 1;".repeat(8) + "^rhyme;", 5);
        Checks.fault("ends 3;" + "bar 1;".repeat(4) + "^bar 1;", 5);
        StringBuilder words = new StringBuilder("ends 3;");
        for (char name = 'a'; name < 'm'; name++) {
            words.append("word ").append(name).append(" rhyme 1 beats 1 kind 1;");
        }
        Checks.due("twelve words", Checks.read(new EndsRound(), words.toString()), 0);
        Checks.fault(words + "^word a;", 5);
        Checks.fault("ends 3;bar " + FIVE + "^1;", 5);
        Checks.fault("ends 3;bar (((((^1)))));", 5);
        Checks.fault("ends 3;bar (((((^(;", 5);
        Checks.fault("ends 3;bar (((((^sort;", 5);
        Checks.fault("ends 3;bar not not not not not ^not;", 5);
        Checks.fault("ends 3;bar not not not not not ^next;", 5);
        Checks.fault("ends 3;bar ((((1))))+not not not not 1*(((((^1;", 5);
        Checks.fault("ends 3;bar (((((^abcdefghi;", 1);
    }
}
