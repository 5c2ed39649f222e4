import java.util.ArrayDeque;
import java.util.ArrayList;
import java.util.Comparator;
import java.util.Deque;
import java.util.LinkedHashSet;
import java.util.List;
import java.util.NoSuchElementException;
import java.util.Set;
import java.util.TreeSet;

/**
 * The document once more, written with texts and lists and without regard to speed, so that random
 * runs have something to be compared with. It finds hypotheses by trying far more stems than needed.
 */
final class ReferenceGuesser {
    record Cell(int kind, int parameter, String oldEnding, String ending) {
        String form(String stem) {
            switch (kind) {
                case 0:
                    return stem + ending;
                case 1:
                    return stem.endsWith(oldEnding)
                            ? stem.substring(0, stem.length() - oldEnding.length()) + ending : null;
                case 2:
                    return stem + stem.charAt(stem.length() - 1) + ending;
                default:
                    int last = stem.length() - 1;
                    while (last >= 0 && !isVowel(stem.charAt(last))) {
                        last--;
                    }
                    return last < 0 ? null : stem.substring(0, last) + "aeiou".charAt(parameter)
                            + stem.substring(last + 1) + ending;
            }
        }
    }

    record Paradigm(List<Cell> cells, int kind, int parameter, String end) {
        boolean allows(String stem) {
            if (stem.length() < 2 || stem.length() > 10) {
                return false;
            }
            boolean vowel = isVowel(stem.charAt(stem.length() - 1));
            return switch (kind) {
                case 0 -> true;
                case 1 -> vowel;
                case 2 -> !vowel;
                case 3 -> stem.length() >= parameter;
                default -> stem.endsWith(end);
            };
        }

        Set<String> forms(String stem) {
            Set<String> forms = new LinkedHashSet<>();
            for (Cell cell : cells) {
                if (cell.form(stem) != null) {
                    forms.add(cell.form(stem));
                }
            }
            return forms;
        }
    }

    record Lexeme(int paradigm, String stem, List<String> exceptions) {
    }

    record State(List<Paradigm> paradigms, List<String> words, List<Lexeme> lexemes) {
    }

    record Hypothesis(int paradigm, String stem, int explained, int missing, Set<String> forms) {
        static final Comparator<Hypothesis> ORDER = Comparator
                .comparingInt((Hypothesis h) -> -h.explained)
                .thenComparingInt(h -> h.missing)
                .thenComparingInt(h -> -h.stem.length())
                .thenComparingInt(h -> h.paradigm)
                .thenComparing(h -> h.stem);
    }

    private String input = "";
    private State state = new State(List.of(), List.of(), List.of());
    private State saved;
    private final Deque<State> history = new ArrayDeque<>();
    private State hypothesesOf;
    private List<Hypothesis> hypotheses = List.of();

    private static boolean isVowel(char letter) {
        return "aeiou".indexOf(letter) >= 0;
    }

    private static void index(boolean fine) {
        if (!fine) {
            throw new IndexOutOfBoundsException();
        }
    }

    private static void argument(boolean fine) {
        if (!fine) {
            throw new IllegalArgumentException();
        }
    }

    private static void state(boolean fine) {
        if (!fine) {
            throw new IllegalStateException();
        }
    }

    private static void element(boolean fine) {
        if (!fine) {
            throw new NoSuchElementException();
        }
    }

    private static <T> T at(List<T> list, int index) {
        index(index >= 0 && index < list.size());
        return list.get(index);
    }

    private static <T> List<T> with(List<T> list, T last) {
        List<T> longer = new ArrayList<>(list);
        longer.add(last);
        return longer;
    }

    private static <T> List<T> with(List<T> list, int index, T value) {
        List<T> changed = new ArrayList<>(list);
        changed.set(index, value);
        return changed;
    }

    private static <T> List<T> without(List<T> list, int index) {
        List<T> shorter = new ArrayList<>(list);
        shorter.remove(index);
        return shorter;
    }

    private void become(State next) {
        history.addLast(state);
        if (history.size() > 10) {
            history.removeFirst();
        }
        state = next;
    }

    private void setParadigms(List<Paradigm> paradigms) {
        become(new State(paradigms, state.words, state.lexemes));
    }

    private void setWords(List<String> words) {
        become(new State(state.paradigms, words, state.lexemes));
    }

    private void setLexemes(List<Lexeme> lexemes) {
        become(new State(state.paradigms, state.words, lexemes));
    }

    private String takeInput() {
        String taken = input;
        input = "";
        return taken;
    }

    int append(char letter) {
        argument(letter >= 'a' && letter <= 'z');
        state(input.length() < 14);
        input += letter;
        return input.length();
    }

    int clearInput() {
        return takeInput().length();
    }

    char inputLetter(int index) {
        index(index >= 0 && index < input.length());
        return input.charAt(index);
    }

    int addParadigm() {
        state(state.paradigms.size() < 6);
        setParadigms(with(state.paradigms, new Paradigm(List.of(), 0, 0, "")));
        return state.paradigms.size() - 1;
    }

    int paradigmCount() {
        return state.paradigms.size();
    }

    int addCell(int paradigm, int kind, int parameter) {
        Paradigm old = at(state.paradigms, paradigm);
        argument(kind >= 0 && kind <= 3);
        int highest = kind == 1 ? input.length() : kind == 3 ? 4 : 0;
        argument(parameter >= 0 && parameter <= highest);
        int cut = kind == 1 ? parameter : 0;
        argument(cut <= 4 && input.length() - cut <= 4);
        state(old.cells.size() < 6);
        String ending = takeInput();
        Cell cell = new Cell(kind, parameter, ending.substring(0, cut), ending.substring(cut));
        setParadigms(with(state.paradigms, paradigm,
                new Paradigm(with(old.cells, cell), old.kind, old.parameter, old.end)));
        return old.cells.size();
    }

    int removeLastCell(int paradigm) {
        Paradigm old = at(state.paradigms, paradigm);
        element(!old.cells.isEmpty());
        int last = old.cells.size() - 1;
        setParadigms(with(state.paradigms, paradigm,
                new Paradigm(without(old.cells, last), old.kind, old.parameter, old.end)));
        return last;
    }

    int cellCount(int paradigm) {
        return at(state.paradigms, paradigm).cells.size();
    }

    int cell(int paradigm, int cell, int what) {
        Cell asked = at(at(state.paradigms, paradigm).cells, cell);
        argument(what >= 0 && what <= 2);
        return what == 0 ? asked.kind : what == 1 ? asked.parameter : asked.ending.length();
    }

    int setCondition(int paradigm, int kind, int parameter) {
        Paradigm old = at(state.paradigms, paradigm);
        argument(kind >= 0 && kind <= 4);
        argument(kind == 3 ? parameter >= 2 && parameter <= 10 : parameter == 0);
        argument(kind != 4 || input.length() >= 1 && input.length() <= 4);
        String end = kind == 4 ? takeInput() : "";
        setParadigms(with(state.paradigms, paradigm, new Paradigm(old.cells, kind, parameter, end)));
        return old.kind;
    }

    boolean fulfills(int paradigm) {
        return at(state.paradigms, paradigm).allows(input);
    }

    int inflect(int paradigm, int cell) {
        Cell asked = at(at(state.paradigms, paradigm).cells, cell);
        state(input.length() >= 2 && input.length() <= 10);
        return take(asked.form(input));
    }

    private int take(String form) {
        element(form != null && form.length() <= 14);
        input = form;
        return form.length();
    }

    int addWord() {
        argument(input.length() >= 2);
        int known = state.words.indexOf(input);
        state(known >= 0 || state.words.size() < 16);
        String word = takeInput();
        setWords(known >= 0 ? state.words : with(state.words, word));
        return state.words.indexOf(word);
    }

    int removeWord(int word) {
        at(state.words, word);
        setWords(without(state.words, word));
        return state.words.size();
    }

    int wordCount() {
        return state.words.size();
    }

    int wordLength(int word) {
        return at(state.words, word).length();
    }

    char wordLetter(int word, int index) {
        String asked = at(state.words, word);
        index(index >= 0 && index < asked.length());
        return asked.charAt(index);
    }

    private List<String> endingsOf(String word) {
        List<String> endings = new ArrayList<>();
        for (Paradigm paradigm : state.paradigms) {
            for (Cell cell : paradigm.cells) {
                if (word.endsWith(cell.ending)) {
                    endings.add(cell.ending);
                }
            }
        }
        return endings;
    }

    int longestEnding(int word) {
        List<String> endings = endingsOf(at(state.words, word));
        element(!endings.isEmpty());
        return endings.stream().mapToInt(String::length).max().getAsInt();
    }

    int endings(int word) {
        return endingsOf(at(state.words, word)).size();
    }

    /** Every stem that shares its beginning with a word, with any vowel and any old ending. */
    private Set<String> stemsToTry(Paradigm paradigm) {
        Set<String> endings = new TreeSet<>(Set.of(""));
        paradigm.cells.forEach(cell -> endings.add(cell.oldEnding));
        Set<String> stems = new TreeSet<>();
        for (String word : state.words) {
            for (int cut = 0; cut <= word.length(); cut++) {
                for (String ending : endings) {
                    stems.add(word.substring(0, cut) + ending);
                }
                for (int at = 0; at < cut; at++) {
                    for (char vowel : "aeiou".toCharArray()) {
                        stems.add(word.substring(0, at) + vowel + word.substring(at + 1, cut));
                    }
                }
            }
        }
        return stems;
    }

    List<Hypothesis> hypotheses() {
        boolean isKnown = hypothesesOf != null && hypothesesOf.paradigms == state.paradigms
                && hypothesesOf.words == state.words;
        if (isKnown) {
            return hypotheses;
        }
        List<Hypothesis> all = new ArrayList<>();
        for (int p = 0; p < state.paradigms.size(); p++) {
            addHypotheses(p, stemsToTry(state.paradigms.get(p)), all);
        }
        all.sort(Hypothesis.ORDER);
        hypothesesOf = state;
        hypotheses = all;
        return all;
    }

    private void addHypotheses(int paradigm, Set<String> stems, List<Hypothesis> all) {
        for (String stem : stems) {
            if (state.paradigms.get(paradigm).allows(stem)) {
                Set<String> forms = state.paradigms.get(paradigm).forms(stem);
                int explained = (int) forms.stream().filter(state.words::contains).count();
                if (explained > 0) {
                    all.add(new Hypothesis(paradigm, stem, explained, forms.size() - explained, forms));
                }
            }
        }
    }

    int hypothesisCount() {
        return hypotheses().size();
    }

    int hypothesis(int hypothesis, int what) {
        Hypothesis asked = at(hypotheses(), hypothesis);
        argument(what >= 0 && what <= 3);
        return what == 0 ? asked.paradigm : what == 1 ? asked.explained
                : what == 2 ? asked.missing : asked.stem.length();
    }

    char stemLetter(int hypothesis, int index) {
        String stem = at(hypotheses(), hypothesis).stem;
        index(index >= 0 && index < stem.length());
        return stem.charAt(index);
    }

    boolean explains(int hypothesis, int word) {
        return at(hypotheses(), hypothesis).forms.contains(at(state.words, word));
    }

    int explanations(int word) {
        String asked = at(state.words, word);
        return (int) hypotheses().stream().filter(h -> h.forms.contains(asked)).count();
    }

    double attestedShare(int hypothesis) {
        Hypothesis asked = at(hypotheses(), hypothesis);
        return (double) asked.explained / (double) asked.forms.size();
    }

    private boolean isLexeme(Hypothesis hypothesis) {
        return state.lexemes.stream().anyMatch(
                l -> l.paradigm == hypothesis.paradigm && l.stem.equals(hypothesis.stem));
    }

    private static Lexeme lexemeOf(Hypothesis hypothesis) {
        List<String> none = new ArrayList<>();
        for (int cell = 0; cell < 6; cell++) {
            none.add(null);
        }
        return new Lexeme(hypothesis.paradigm, hypothesis.stem, none);
    }

    int accept(int hypothesis) {
        Hypothesis asked = at(hypotheses(), hypothesis);
        state(state.lexemes.size() < 10 && !isLexeme(asked));
        setLexemes(with(state.lexemes, lexemeOf(asked)));
        return state.lexemes.size() - 1;
    }

    int cover() {
        List<Hypothesis> all = hypotheses();
        setLexemes(state.lexemes);
        int accepted = 0;
        while (state.lexemes.size() < 10) {
            List<String> open = state.words.stream()
                    .filter(w -> lexemesOf(state.words.indexOf(w)) == 0).toList();
            Hypothesis best = null;
            long most = 0;
            for (Hypothesis h : all) {
                long explained = open.stream().filter(h.forms::contains).count();
                if (explained > most && !isLexeme(h)) {
                    best = h;
                    most = explained;
                }
            }
            if (best == null) {
                break;
            }
            state = new State(state.paradigms, state.words, with(state.lexemes, lexemeOf(best)));
            accepted++;
        }
        return accepted;
    }

    int lexemeCount() {
        return state.lexemes.size();
    }

    private int exceptionCount(Lexeme lexeme) {
        int count = 0;
        for (int cell = 0; cell < cellCount(lexeme.paradigm); cell++) {
            count += lexeme.exceptions.get(cell) == null ? 0 : 1;
        }
        return count;
    }

    int lexeme(int lexeme, int what) {
        Lexeme asked = at(state.lexemes, lexeme);
        argument(what >= 0 && what <= 2);
        return what == 0 ? asked.paradigm : what == 1 ? asked.stem.length() : exceptionCount(asked);
    }

    int takeStem(int lexeme) {
        return take(at(state.lexemes, lexeme).stem);
    }

    int setException(int lexeme, int cell) {
        Lexeme old = at(state.lexemes, lexeme);
        at(state.paradigms.get(old.paradigm).cells, cell);
        argument(input.length() >= 2);
        return changeException(lexeme, cell, takeInput());
    }

    private int changeException(int lexeme, int cell, String exception) {
        Lexeme old = state.lexemes.get(lexeme);
        Lexeme changed = new Lexeme(old.paradigm, old.stem, with(old.exceptions, cell, exception));
        setLexemes(with(state.lexemes, lexeme, changed));
        return exceptionCount(changed);
    }

    int clearException(int lexeme, int cell) {
        Lexeme old = at(state.lexemes, lexeme);
        at(state.paradigms.get(old.paradigm).cells, cell);
        element(old.exceptions.get(cell) != null);
        return changeException(lexeme, cell, null);
    }

    private String form(Lexeme lexeme, int cell) {
        Cell asked = at(state.paradigms.get(lexeme.paradigm).cells, cell);
        String exception = lexeme.exceptions.get(cell);
        return exception != null ? exception : asked.form(lexeme.stem);
    }

    int takeForm(int lexeme, int cell) {
        return take(form(at(state.lexemes, lexeme), cell));
    }

    private List<String> formsByCell(Lexeme lexeme) {
        List<String> forms = new ArrayList<>();
        for (int cell = 0; cell < cellCount(lexeme.paradigm); cell++) {
            forms.add(form(lexeme, cell));
        }
        return forms;
    }

    boolean hasForm(int lexeme, int word) {
        Lexeme asked = at(state.lexemes, lexeme);
        return formsByCell(asked).contains(at(state.words, word));
    }

    private List<Integer> missingCells(int lexeme) {
        List<String> forms = formsByCell(at(state.lexemes, lexeme));
        List<Integer> cells = new ArrayList<>();
        for (int cell = 0; cell < forms.size(); cell++) {
            if (forms.get(cell) != null && !state.words.contains(forms.get(cell))) {
                cells.add(cell);
            }
        }
        return cells;
    }

    int missing(int lexeme) {
        return missingCells(lexeme).size();
    }

    int missingCell(int lexeme, int index) {
        List<Integer> cells = missingCells(lexeme);
        element(index >= 0 && index < cells.size());
        return cells.get(index);
    }

    int uncovered() {
        int count = 0;
        for (int word = 0; word < state.words.size(); word++) {
            count += lexemesOf(word) == 0 ? 1 : 0;
        }
        return count;
    }

    int lexemesOf(int word) {
        String asked = at(state.words, word);
        return (int) state.lexemes.stream().filter(l -> formsByCell(l).contains(asked)).count();
    }

    int undo() {
        element(!history.isEmpty());
        state = history.removeLast();
        return history.size();
    }

    int save() {
        saved = state;
        return state.lexemes.size();
    }

    int restore() {
        state(saved != null);
        state = saved;
        history.clear();
        return state.lexemes.size();
    }
}
