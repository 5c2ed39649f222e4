import java.util.Objects;

/** What the tests share: due answers, due exceptions, typing, and a look at all that can be asked. */
final class Checks {
    private static final String[] PROBES = {
        "ab", "ba", "be", "tip", "stop", "baby", "aaaaa", "zzzzzz", "abcdefghi", "abcdefghij"
    };

    private static int wrong;
    private static String part = "";

    private Checks() {
    }

    interface Call {
        Object run();
    }

    static void part(String name) {
        part = name;
    }

    static void due(String what, Object got, Object want) {
        if (!Objects.equals(got, want)) {
            wrong++;
            System.out.println(part + ": " + what + " answered " + got + ", due is " + want);
        }
    }

    static int wrongCount() {
        return wrong;
    }

    static void end() {
        System.out.println(wrong == 0 ? "all answers are as due" : wrong + " answers are not as due");
        if (wrong != 0) {
            System.exit(1);
        }
    }

    /** The call throws just this exception and leaves all that can be asked as it was. */
    static void refused(InflectionGuesser x, String what, Class<?> want, Call call) {
        String before = look(x);
        due(what, answer(call), "throws." + want.getSimpleName());
        due("the state after " + what, look(x), before);
    }

    /** The answer as a text, or the exception's name. */
    static String answer(Call call) {
        try {
            return String.valueOf(call.run());
        } catch (RuntimeException e) {
            return "throws." + e.getClass().getSimpleName();
        }
    }

    static InflectionGuesser type(InflectionGuesser x, String word) {
        x.clearInput();
        for (char letter : word.toCharArray()) {
            x.append(letter);
        }
        return x;
    }

    static String input(InflectionGuesser x) {
        StringBuilder letters = new StringBuilder();
        for (int i = 0; i < 14; i++) {
            int index = i;
            String letter = answer(() -> x.inputLetter(index));
            if (letter.length() > 1) {
                break;
            }
            letters.append(letter);
        }
        return letters.toString();
    }

    static String word(InflectionGuesser x, int word) {
        StringBuilder letters = new StringBuilder();
        for (int i = 0; i < x.wordLength(word); i++) {
            letters.append(x.wordLetter(word, i));
        }
        return letters.toString();
    }

    static String stem(InflectionGuesser x, int hypothesis) {
        StringBuilder letters = new StringBuilder();
        for (int i = 0; i < x.hypothesis(hypothesis, 3); i++) {
            letters.append(x.stemLetter(hypothesis, i));
        }
        return letters.toString();
    }

    /** The hypotheses in their order, each as its paradigm, stem, explained words and missing forms. */
    static String hypotheses(InflectionGuesser x) {
        StringBuilder all = new StringBuilder();
        for (int h = 0; h < x.hypothesisCount(); h++) {
            all.append(h == 0 ? "" : " ").append(x.hypothesis(h, 0)).append(stem(x, h))
                    .append(x.hypothesis(h, 1)).append(x.hypothesis(h, 2));
        }
        return all.toString();
    }

    static String words(InflectionGuesser x) {
        StringBuilder all = new StringBuilder();
        for (int w = 0; w < x.wordCount(); w++) {
            all.append(w == 0 ? "" : " ").append(word(x, w));
        }
        return all.toString();
    }

    /** All that can be asked but the history and what was saved; the input is put back. */
    static String look(InflectionGuesser x) {
        String input = input(x);
        StringBuilder all = new StringBuilder("input " + input);
        for (int p = 0; p < x.paradigmCount(); p++) {
            lookAtParadigm(x, p, all);
        }
        all.append("\nwords ").append(words(x));
        for (int w = 0; w < x.wordCount(); w++) {
            int word = w;
            all.append(' ').append(x.endings(w)).append(answer(() -> x.longestEnding(word)))
                    .append(x.explanations(w)).append(x.lexemesOf(w));
        }
        all.append("\nhypotheses ").append(hypotheses(x));
        all.append("\nuncovered ").append(x.uncovered());
        for (int l = 0; l < x.lexemeCount(); l++) {
            lookAtLexeme(x, l, all);
        }
        type(x, input);
        return all.toString();
    }

    private static void lookAtParadigm(InflectionGuesser x, int paradigm, StringBuilder all) {
        all.append("\nparadigm ").append(paradigm);
        for (int c = 0; c < x.cellCount(paradigm); c++) {
            int cell = c;
            all.append(" cell ");
            for (int what = 0; what < 3; what++) {
                all.append(x.cell(paradigm, c, what));
            }
            for (String probe : PROBES) {
                type(x, probe);
                all.append(' ').append(answer(() -> x.inflect(paradigm, cell))).append(input(x));
            }
        }
        all.append(" condition ");
        for (String probe : PROBES) {
            all.append(type(x, probe).fulfills(paradigm) ? '1' : '0');
        }
    }

    private static void lookAtLexeme(InflectionGuesser x, int lexeme, StringBuilder all) {
        all.append("\nlexeme ").append(x.lexeme(lexeme, 0)).append(x.lexeme(lexeme, 1))
                .append(x.lexeme(lexeme, 2)).append(' ').append(x.missing(lexeme));
        x.takeStem(lexeme);
        all.append(' ').append(input(x));
        for (int c = 0; c < x.cellCount(x.lexeme(lexeme, 0)); c++) {
            int cell = c;
            x.clearInput();
            all.append(' ').append(answer(() -> x.takeForm(lexeme, cell))).append(input(x));
            all.append(' ').append(answer(() -> x.missingCell(lexeme, cell)));
        }
        for (int w = 0; w < x.wordCount(); w++) {
            all.append(x.hasForm(lexeme, w) ? '1' : '0');
        }
    }
}
