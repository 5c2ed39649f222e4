import java.util.ArrayList;
import java.util.HashMap;
import java.util.List;
import java.util.Map;
import java.util.Set;
import java.util.function.IntFunction;

/**
 * Runs the lines of a test in src/test/boundaries.txt, which tells their form. A refused call and a
 * question are watched: all that can be asked is the same before and after them, the history and
 * what was saved among it.
 */
final class Script {
    private static final Set<String> QUESTIONS = Set.of("inputLetter", "paradigmCount", "cellCount", "cell",
            "fulfills", "wordCount", "wordLength", "wordLetter", "longestEnding", "endings", "hypothesisCount",
            "hypothesis", "stemLetter", "explains", "explanations", "attestedShare", "lexemeCount", "lexeme",
            "hasForm", "missing", "missingCell", "uncovered", "lexemesOf");
    /** Numbers far out of range, some of which come back into it if a product, a shift or a cast wraps. */
    private static final String FAR =
            "-2147483648 2147483647 -32 32 256 65536 1073741824 306783379 715827883";

    private final Map<String, String> scenes;
    private final Map<String, String> marks = new HashMap<>();
    private List<Subject.Call> run = new ArrayList<>();
    private Subject subject = new Subject();
    private boolean watched = true;
    /** All that can be asked after the run, or null if that is not known yet. */
    private String known;
    private int checks;

    Script(Map<String, String> scenes) {
        this.scenes = scenes;
    }

    int checks() {
        return checks;
    }

    void line(String line) {
        int colon = line.indexOf(": ");
        if (line.startsWith("each ") || line.startsWith("repeat ")) {
            String what = line.substring(line.indexOf(' ') + 1, colon);
            boolean each = line.startsWith("each ");
            int times = each ? what.length() : Integer.parseInt(what);
            for (int i = 0; i < times; i++) {
                lines(line.substring(colon + 2).replace("$", each ? what.substring(i, i + 1) : "$"));
            }
            return;
        }
        String padded = line + " ";
        int sign = Math.max(padded.indexOf(" = "), padded.indexOf(" ! "));
        String want = null;
        if (sign >= 0) {
            String behind = padded.substring(sign + 3).trim();
            want = padded.charAt(sign + 1) == '!' ? "throws." + behind : behind;
        }
        for (String call : expand(sign >= 0 ? line.substring(0, sign) : line)) {
            perform(call.split(" "), want);
        }
    }

    private void lines(String lines) {
        for (String line : lines.split("; ")) {
            line(line);
        }
    }

    /** "cell 0 {1 2} 3" is "cell 0 1 3" and "cell 0 2 3". */
    private static List<String> expand(String call) {
        int open = call.indexOf('{');
        if (open < 0) {
            return List.of(call);
        }
        int close = call.indexOf('}');
        List<String> calls = new ArrayList<>();
        for (String choice : call.substring(open + 1, close).replace("FAR", FAR).split(" ")) {
            calls.addAll(expand(call.substring(0, open) + choice + call.substring(close + 1)));
        }
        return calls;
    }

    private void perform(String[] words, String want) {
        if (Subject.knows(words[0])) {
            check(callOf(words), want);
        } else if (want != null) {
            checks++;
            Checks.due(String.join(" ", words), look(words), want);
        } else {
            change(words);
        }
    }

    private static Subject.Call callOf(String[] words) {
        Class<?>[] types = Subject.parameters(words[0]);
        if (types.length != words.length - 1) {
            throw new IllegalArgumentException("wrong number of arguments: " + String.join(" ", words));
        }
        Object[] arguments = new Object[types.length];
        for (int i = 0; i < types.length; i++) {
            String word = words[i + 1];
            if (types[i] == char.class) {
                arguments[i] = word.startsWith("#") ? (char) Integer.parseInt(word.substring(1)) : word.charAt(0);
            } else {
                arguments[i] = Integer.parseInt(word);
            }
        }
        return new Subject.Call(words[0], arguments);
    }

    private void check(Subject.Call call, String want) {
        boolean refused = want != null && want.startsWith("throws");
        boolean unchanging = watched && want != null && (refused || QUESTIONS.contains(call.name()));
        String before = unchanging ? state() : null;
        String answer = make(call);
        if (want == null) {
            Checks.due("whether " + call + " is refused", answer.startsWith("throws"), false);
            return;
        }
        checks++;
        Checks.due(call.toString(), answer, quotient(want));
        if (unchanging) {
            Checks.due("the state after " + call, state(), before);
        }
    }

    private String make(Subject.Call call) {
        known = null;
        run.add(call);
        return subject.ask(call);
    }

    private String state() {
        if (known == null) {
            known = Snapshot.whole(run);
        }
        return known;
    }

    /** "1/3" is the double that the division gives. */
    private static String quotient(String want) {
        int slash = want.indexOf('/');
        return slash < 0 ? want : String.valueOf((double) Integer.parseInt(want.substring(0, slash))
                / (double) Integer.parseInt(want.substring(slash + 1)));
    }

    private void must(String name, Object... arguments) {
        check(new Subject.Call(name, arguments), null);
    }

    private void change(String[] words) {
        switch (words[0]) {
            case "new":
                run = new ArrayList<>();
                subject = new Subject();
                known = null;
                watched = true;
                break;
            case "scene":
                lines(scenes.get(words[1]));
                break;
            case "unwatched":
                watched = false;
                break;
            case "mark":
                marks.put(words[1], Snapshot.present(run));
                break;
            case "like":
                checks++;
                Checks.due("the state like " + words[1], Snapshot.present(run), marks.get(words[1]));
                break;
            case "type":
                type(words.length < 2 ? "" : words[1]);
                break;
            case "words":
                for (int i = 1; i < words.length; i++) {
                    type(words[i]);
                    must("addWord");
                }
                break;
            case "paradigm":
                int paradigm = Integer.parseInt(make(new Subject.Call("addParadigm")));
                addCells(paradigm, words, 1);
                break;
            case "cells":
                addCells(Integer.parseInt(words[1]), words, 2);
                break;
            case "pair":
                must("accept", find(words[1] + words[2]));
                break;
            default:
                throw new IllegalArgumentException("unknown step " + String.join(" ", words));
        }
    }

    private void type(String word) {
        must("clearInput");
        for (char letter : word.toCharArray()) {
            must("append", letter);
        }
    }

    /** Cells are written "+s" (append), "y>ies" (replace), "*ed" (double) and "e!s" (change). */
    private void addCells(int paradigm, String[] words, int from) {
        for (int i = from; i < words.length; i++) {
            String cell = words[i];
            if (cell.startsWith("+") || cell.startsWith("*")) {
                type(cell.substring(1));
                must("addCell", paradigm, cell.startsWith("+") ? 0 : 2, 0);
            } else if (cell.indexOf('!') == 1) {
                type(cell.substring(2));
                must("addCell", paradigm, 3, "aeiou".indexOf(cell.charAt(0)));
            } else {
                type(cell.replace(">", ""));
                must("addCell", paradigm, 1, cell.indexOf('>'));
            }
        }
    }

    /** The index of the hypothesis with a paradigm and a stem. */
    private int find(String pair) {
        int count = Subject.after(run).number("hypothesisCount");
        for (int h = 0; h < count; h++) {
            String found = Subject.after(run).hypothesis(h);
            if (found.substring(0, found.length() - 2).equals(pair)) {
                return h;
            }
        }
        throw new IllegalArgumentException("no hypothesis " + pair);
    }

    /** Questions that no single call of the face answers are asked on other objects. */
    private String look(String[] words) {
        Subject other = Subject.after(run);
        switch (words[0]) {
            case "calls":
                return String.valueOf(run.size());
            case "input":
                return other.input();
            case "wordlist":
                return list(other.number("wordCount"), w -> Subject.after(run).word(w));
            case "hypotheses":
                return list(other.number("hypothesisCount"), h -> Subject.after(run).hypothesis(h));
            case "lexemes":
                return list(other.number("lexemeCount"), l -> Subject.after(run).lexeme(l));
            case "form":
                return other.form(Integer.parseInt(words[1]), Integer.parseInt(words[2]));
            default:
                throw new IllegalArgumentException("unknown question " + String.join(" ", words));
        }
    }

    private static String list(int count, IntFunction<String> part) {
        List<String> parts = new ArrayList<>();
        for (int i = 0; i < count; i++) {
            parts.add(part.apply(i));
        }
        return String.join(" ", parts);
    }
}
