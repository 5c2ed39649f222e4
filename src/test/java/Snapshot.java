import java.util.ArrayList;
import java.util.List;

/**
 * All that can be asked after a run of calls, as one text. The run is made again on further objects,
 * because the questions are many and some of them change the input.
 */
final class Snapshot {
    private static final String[] STEMS = {"ab", "fly", "xabcd", "abcdefghij"};
    private static final String[] CONDITION_STEMS = {"ab", "ba", "fly", "xabcd", "singing", "abcdefghij"};

    private final List<Subject.Call> run;
    private final StringBuilder text = new StringBuilder();
    private Subject subject;

    private Snapshot(List<Subject.Call> run) {
        this.run = run;
        this.subject = Subject.after(run);
    }

    /** The input, the present state, each state that the history remembers, and what was saved. */
    static String whole(List<Subject.Call> run) {
        StringBuilder text = new StringBuilder("input " + Subject.after(run).input());
        text.append("\npresent ").append(present(run));
        List<Subject.Call> longer = new ArrayList<>(run);
        String answer = next(longer, "undo");
        while (!answer.startsWith("throws")) {
            text.append("\nremembered ").append(answer).append(present(longer));
            answer = next(longer, "undo");
        }
        longer = new ArrayList<>(run);
        answer = next(longer, "restore");
        if (!answer.startsWith("throws")) {
            text.append("\nsaved ").append(answer).append(present(longer));
        }
        return text.toString();
    }

    private static String next(List<Subject.Call> run, String name) {
        Subject subject = Subject.after(run);
        run.add(new Subject.Call(name));
        return subject.ask(name);
    }

    /** The paradigms, the words, the lexemes and the hypotheses, but not the input. */
    static String present(List<Subject.Call> run) {
        Snapshot snapshot = new Snapshot(run);
        snapshot.lookAtParadigms();
        snapshot.lookAtWords();
        snapshot.lookAtHypotheses();
        snapshot.lookAtLexemes();
        return snapshot.text.toString();
    }

    /** The object that is asked, or a new one if it has no room for so many calls. */
    private Subject roomFor(int calls) {
        if (subject.callsLeft() < calls) {
            subject = Subject.after(run);
        }
        return subject;
    }

    private void lookAtParadigms() {
        int paradigms = roomFor(1).number("paradigmCount");
        for (int p = 0; p < paradigms; p++) {
            text.append("\n  paradigm ").append(p).append(" condition ");
            for (String stem : CONDITION_STEMS) {
                roomFor(13).type(stem);
                text.append(subject.ask("fulfills", p)).append(' ');
            }
            int cells = roomFor(1).number("cellCount", p);
            for (int c = 0; c < cells; c++) {
                lookAtCell(p, c);
            }
        }
    }

    private void lookAtCell(int paradigm, int cell) {
        roomFor(3);
        text.append(" cell ");
        for (int what = 0; what < 3; what++) {
            text.append(subject.ask("cell", paradigm, cell, what));
        }
        for (String stem : STEMS) {
            roomFor(28).type(stem);
            text.append(' ').append(subject.ask("inflect", paradigm, cell)).append(subject.input());
        }
    }

    private void lookAtWords() {
        int words = roomFor(1).number("wordCount");
        text.append("\n  words ").append(words);
        for (int w = 0; w < words; w++) {
            text.append(' ').append(roomFor(20).word(w));
            for (String question : new String[] {"longestEnding", "endings", "explanations", "lexemesOf"}) {
                text.append(' ').append(subject.ask(question, w));
            }
        }
        text.append(" uncovered ").append(roomFor(1).ask("uncovered"));
    }

    private void lookAtHypotheses() {
        int words = roomFor(1).number("wordCount");
        int hypotheses = roomFor(1).number("hypothesisCount");
        text.append("\n  hypotheses ").append(hypotheses);
        for (int h = 0; h < hypotheses; h++) {
            text.append(' ').append(roomFor(32).hypothesis(h)).append(' ').append(subject.ask("attestedShare", h));
            for (int w = 0; w < words; w++) {
                text.append(subject.ask("explains", h, w).charAt(0));
            }
        }
    }

    private void lookAtLexemes() {
        int words = roomFor(1).number("wordCount");
        int lexemes = roomFor(1).number("lexemeCount");
        text.append("\n  lexemes ").append(lexemes);
        for (int l = 0; l < lexemes; l++) {
            text.append(' ').append(roomFor(32).lexeme(l));
            text.append(subject.ask("lexeme", l, 1)).append(subject.ask("lexeme", l, 2)).append(subject.ask("missing", l));
            for (int w = 0; w < words; w++) {
                text.append(subject.ask("hasForm", l, w).charAt(0));
            }
            int cells = roomFor(2).number("cellCount", subject.number("lexeme", l, 0));
            for (int c = 0; c < cells; c++) {
                text.append(' ').append(roomFor(20).form(l, c)).append(' ').append(subject.ask("missingCell", l, c));
            }
        }
    }
}
