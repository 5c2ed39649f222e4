import java.util.ArrayList;
import java.util.List;
import java.util.Random;
import java.util.TreeSet;

/** Hypotheses against a search that tries every stem over a small alphabet, and no cleverness. */
public final class EveryStemTests {
    private static final String LETTERS = "aeioub";
    private static final int LONGEST = 5;
    private static final int ROUNDS = 60;

    private EveryStemTests() {
    }

    public static void main(String[] args) {
        List<String> stems = everyStem();
        Random random = new Random(7);
        for (int round = 0; round < ROUNDS; round++) {
            Checks.part("round " + round);
            compare(random, stems);
        }
        Checks.end();
    }

    private static List<String> everyStem() {
        List<String> stems = new ArrayList<>();
        List<String> shorter = List.of("");
        for (int length = 1; length <= LONGEST; length++) {
            List<String> longer = new ArrayList<>();
            for (String start : shorter) {
                for (char letter : LETTERS.toCharArray()) {
                    longer.add(start + letter);
                }
            }
            if (length >= 2) {
                stems.addAll(longer);
            }
            shorter = longer;
        }
        return stems;
    }

    private static String text(Random random, int least, int most) {
        StringBuilder text = new StringBuilder();
        for (int i = least + random.nextInt(most - least + 1); i > 0; i--) {
            text.append(LETTERS.charAt(random.nextInt(LETTERS.length())));
        }
        return text.toString();
    }

    /** Words of 4 letters and old endings of 1 keep all stems among those that are tried. */
    private static void compare(Random random, List<String> stems) {
        InflectionGuesser x = new InflectionGuesser();
        x.addParadigm();
        for (int cell = 0; cell < 4; cell++) {
            int kind = random.nextInt(4);
            String ending = text(random, kind == 1 ? 1 : 0, 2);
            Checks.type(x, ending).addCell(0, kind, kind == 1 ? 1 : kind == 3 ? random.nextInt(5) : 0);
        }
        for (int word = 0; word < 8; word++) {
            Checks.type(x, text(random, 2, 4)).addWord();
        }
        TreeSet<String> words = new TreeSet<>(List.of(Checks.words(x).split(" ")));
        TreeSet<String> want = new TreeSet<>();
        for (String stem : stems) {
            count(x, stem, words, want);
        }
        TreeSet<String> got = new TreeSet<>(List.of(Checks.hypotheses(x).split(" ")));
        got.remove("");
        Checks.due("the hypotheses", got, want);
    }

    private static void count(InflectionGuesser x, String stem, TreeSet<String> words, TreeSet<String> want) {
        TreeSet<String> forms = new TreeSet<>();
        for (int c = 0; c < x.cellCount(0); c++) {
            int cell = c;
            Checks.type(x, stem);
            if (!Checks.answer(() -> x.inflect(0, cell)).startsWith("throws")) {
                forms.add(Checks.input(x));
            }
        }
        int all = forms.size();
        forms.retainAll(words);
        if (!forms.isEmpty()) {
            want.add("0" + stem + forms.size() + (all - forms.size()));
        }
    }
}
