import java.util.NoSuchElementException;

/** Each promise of the document: ordinary inputs, the edges that it names, and wrong inputs. */
public final class PromiseTests {
    private static final Class<?> INDEX = IndexOutOfBoundsException.class;
    private static final Class<?> ARGUMENT = IllegalArgumentException.class;
    private static final Class<?> STATE = IllegalStateException.class;
    private static final Class<?> NONE = NoSuchElementException.class;
    private static final int LEAST = Integer.MIN_VALUE;
    private static final int MOST = Integer.MAX_VALUE;

    private PromiseTests() {
    }

    private static void due(String what, Object got, Object want) {
        Checks.due(what, got, want);
    }

    private static void refused(InflectionGuesser x, String what, Class<?> want, Checks.Call call) {
        Checks.refused(x, what, want, call);
    }

    private static InflectionGuesser type(InflectionGuesser x, String word) {
        return Checks.type(x, word);
    }

    /** Cells are written "+s" (append), "y>ies" (replace), "*ed" (double) and "e!s" (change). */
    private static int addCell(InflectionGuesser x, int paradigm, String cell) {
        if (cell.startsWith("+")) {
            return type(x, cell.substring(1)).addCell(paradigm, 0, 0);
        }
        if (cell.startsWith("*")) {
            return type(x, cell.substring(1)).addCell(paradigm, 2, 0);
        }
        if (cell.indexOf('!') == 1) {
            return type(x, cell.substring(2)).addCell(paradigm, 3, "aeiou".indexOf(cell.charAt(0)));
        }
        return type(x, cell.replace(">", "")).addCell(paradigm, 1, cell.indexOf('>'));
    }

    private static int addParadigm(InflectionGuesser x, String... cells) {
        int paradigm = x.addParadigm();
        for (String cell : cells) {
            addCell(x, paradigm, cell);
        }
        return paradigm;
    }

    private static void addWords(InflectionGuesser x, String... words) {
        for (String word : words) {
            type(x, word).addWord();
        }
    }

    /** Two paradigms, four words and two lexemes: "cat" in 0 and "fly" in 1. */
    private static InflectionGuesser sample() {
        InflectionGuesser x = new InflectionGuesser();
        addParadigm(x, "+", "+s");
        addParadigm(x, "+", "y>ies", "+ing");
        addWords(x, "cat", "cats", "fly", "flies");
        acceptPair(x, 0, "cat");
        acceptPair(x, 1, "fly");
        return x;
    }

    private static int find(InflectionGuesser x, int paradigm, String stem) {
        for (int h = 0; h < x.hypothesisCount(); h++) {
            if (x.hypothesis(h, 0) == paradigm && Checks.stem(x, h).equals(stem)) {
                return h;
            }
        }
        return -1;
    }

    private static int acceptPair(InflectionGuesser x, int paradigm, String stem) {
        return x.accept(find(x, paradigm, stem));
    }

    private static String stemOf(InflectionGuesser x, int lexeme) {
        x.takeStem(lexeme);
        String stem = Checks.input(x);
        x.clearInput();
        return stem;
    }

    private static String formOf(InflectionGuesser x, int lexeme, int cell) {
        x.clearInput();
        String answer = Checks.answer(() -> x.takeForm(lexeme, cell));
        return answer.startsWith("throws") ? answer : Checks.input(x);
    }

    /** How many entries the history has, found on the way through it. */
    private static int historyLength(InflectionGuesser x) {
        int entries = 0;
        while (!Checks.answer(x::undo).startsWith("throws")) {
            entries++;
        }
        return entries;
    }

    // ---- 1 to 4: a new object and the input

    private static void newObject() {
        InflectionGuesser x = new InflectionGuesser();
        due("paradigmCount()", x.paradigmCount(), 0);
        due("wordCount()", x.wordCount(), 0);
        due("lexemeCount()", x.lexemeCount(), 0);
        due("hypothesisCount()", x.hypothesisCount(), 0);
        due("uncovered()", x.uncovered(), 0);
        due("clearInput()", x.clearInput(), 0);
        refused(x, "undo()", NONE, x::undo);
        refused(x, "restore()", STATE, x::restore);
        InflectionGuesser y = new InflectionGuesser();
        y.addParadigm();
        addWords(y, "ab");
        due("paradigmCount() of another object", x.paradigmCount(), 0);
        due("wordCount() of another object", x.wordCount(), 0);
    }

    private static void append() {
        InflectionGuesser x = new InflectionGuesser();
        due("append(a)", x.append('a'), 1);
        due("append(z)", x.append('z'), 2);
        for (char letter : new char[] {'a' - 1, 'z' + 1, 'A', 'Z', ' ', '0', 0, 228, 0x161, 0xffff}) {
            refused(x, "append((char) " + (int) letter + ")", ARGUMENT, () -> x.append(letter));
        }
        for (int length = 3; length <= 14; length++) {
            due("append(m)", x.append('m'), length);
        }
        due("input", Checks.input(x), "azmmmmmmmmmmmm");
        refused(x, "append(m) to 14 letters", STATE, () -> x.append('m'));
        refused(x, "append(A) to 14 letters", ARGUMENT, () -> x.append('A'));
    }

    private static void clearInput() {
        InflectionGuesser x = new InflectionGuesser();
        due("clearInput() of nothing", x.clearInput(), 0);
        x.append('q');
        x.append('r');
        due("clearInput()", x.clearInput(), 2);
        due("clearInput() again", x.clearInput(), 0);
        due("append after it", x.append('b'), 1);
        due("input", Checks.input(x), "b");
        due("clearInput() of 14", type(x, "abcdefghijklmn").clearInput(), 14);
    }

    private static void inputLetter() {
        InflectionGuesser x = new InflectionGuesser();
        refused(x, "inputLetter(0) of nothing", INDEX, () -> x.inputLetter(0));
        type(x, "abcdefghijklmn");
        due("inputLetter(0)", x.inputLetter(0), 'a');
        due("inputLetter(13)", x.inputLetter(13), 'n');
        for (int index : new int[] {14, -1, LEAST, MOST}) {
            refused(x, "inputLetter(" + index + ")", INDEX, () -> x.inputLetter(index));
        }
        type(x, "xy");
        refused(x, "inputLetter(2) after a longer input", INDEX, () -> x.inputLetter(2));
    }

    // ---- 5 to 13: paradigms

    private static void paradigms() {
        InflectionGuesser x = type(new InflectionGuesser(), "in");
        for (int p = 0; p < 6; p++) {
            due("addParadigm()", x.addParadigm(), p);
            due("paradigmCount()", x.paradigmCount(), p + 1);
            due("cellCount of a new one", x.cellCount(p), 0);
            due("fulfills of a new one", x.fulfills(p), true);
        }
        refused(x, "addParadigm() of a seventh", STATE, x::addParadigm);
        due("paradigmCount()", x.paradigmCount(), 6);
        due("input", Checks.input(x), "in");
    }

    private static void newParadigmAfterUndo() {
        InflectionGuesser x = new InflectionGuesser();
        x.addParadigm();
        addCell(x, 0, "+s");
        x.setCondition(0, 3, 5);
        historyLength(x);
        x.addParadigm();
        due("cellCount after undo and addParadigm", x.cellCount(0), 0);
        due("fulfills after undo and addParadigm", type(x, "ab").fulfills(0), true);
        due("setCondition after undo and addParadigm", x.setCondition(0, 1, 0), 0);
    }

    private static void addCell() {
        InflectionGuesser x = new InflectionGuesser();
        refused(x, "addCell without paradigm", INDEX, () -> x.addCell(0, 0, 0));
        x.addParadigm();
        for (int p : new int[] {-1, 1, LEAST, MOST}) {
            refused(x, "addCell(" + p + ", 9, 9)", INDEX, () -> x.addCell(p, 9, 9));
        }
        type(x, "abc");
        for (int kind : new int[] {-1, 4, LEAST, MOST}) {
            refused(x, "addCell(0, " + kind + ", 0)", ARGUMENT, () -> x.addCell(0, kind, 0));
        }
        for (int parameter : new int[] {-1, 1, LEAST, MOST}) {
            refused(x, "kind 0, parameter " + parameter, ARGUMENT, () -> x.addCell(0, 0, parameter));
            refused(x, "kind 2, parameter " + parameter, ARGUMENT, () -> x.addCell(0, 2, parameter));
        }
        for (int parameter : new int[] {-1, 4, LEAST, MOST}) {
            refused(x, "kind 1, parameter " + parameter, ARGUMENT, () -> x.addCell(0, 1, parameter));
        }
        for (int parameter : new int[] {-1, 5, LEAST, MOST}) {
            refused(x, "kind 3, parameter " + parameter, ARGUMENT, () -> x.addCell(0, 3, parameter));
        }
        due("addCell(0, 1, 3)", x.addCell(0, 1, 3), 0);
        due("clearInput() after addCell", x.clearInput(), 0);
        tooLongEndings(x);
        due("addCell of append", addCell(x, 0, "+abcd"), 1);
        due("addCell of replace", addCell(x, 0, "abcd>efgh"), 2);
        due("addCell of double", addCell(x, 0, "*abcd"), 3);
        due("addCell of change", addCell(x, 0, "u!abcd"), 4);
        due("addCell of nothing by nothing", addCell(x, 0, ">"), 5);
        due("cellCount", x.cellCount(0), 6);
        type(x, "ab");
        refused(x, "addCell of a seventh", STATE, () -> x.addCell(0, 0, 0));
        refused(x, "addCell of a seventh, bad kind", ARGUMENT, () -> x.addCell(0, 4, 0));
        type(x, "abcde");
        refused(x, "addCell of a seventh, too long", ARGUMENT, () -> x.addCell(0, 0, 0));
    }

    private static void tooLongEndings(InflectionGuesser x) {
        type(x, "abcde");
        refused(x, "kind 0 with 5 letters", ARGUMENT, () -> x.addCell(0, 0, 0));
        refused(x, "kind 2 with 5 letters", ARGUMENT, () -> x.addCell(0, 2, 0));
        refused(x, "kind 3 with 5 letters", ARGUMENT, () -> x.addCell(0, 3, 2));
        refused(x, "old ending of 5 letters", ARGUMENT, () -> x.addCell(0, 1, 5));
        refused(x, "new ending of 5 letters", ARGUMENT, () -> x.addCell(0, 1, 0));
        type(x, "abcdefghi");
        refused(x, "endings of 4 and 5 letters", ARGUMENT, () -> x.addCell(0, 1, 4));
        refused(x, "endings of 5 and 4 letters", ARGUMENT, () -> x.addCell(0, 1, 5));
    }

    private static void removeLastCell() {
        InflectionGuesser x = new InflectionGuesser();
        refused(x, "removeLastCell without paradigm", INDEX, () -> x.removeLastCell(0));
        addParadigm(x, "+a", "+b", "*c");
        addParadigm(x, "+d");
        type(x, "in");
        due("removeLastCell(0)", x.removeLastCell(0), 2);
        due("input", Checks.input(x), "in");
        due("the last cell now", x.cell(0, 1, 0), 0);
        due("the other paradigm", x.cellCount(1), 1);
        due("removeLastCell(0)", x.removeLastCell(0), 1);
        due("removeLastCell(0)", x.removeLastCell(0), 0);
        refused(x, "removeLastCell of no cell", NONE, () -> x.removeLastCell(0));
        for (int p : new int[] {-1, 2, LEAST, MOST}) {
            refused(x, "removeLastCell(" + p + ")", INDEX, () -> x.removeLastCell(p));
        }
    }

    private static void cellCount() {
        InflectionGuesser x = new InflectionGuesser();
        refused(x, "cellCount without paradigm", INDEX, () -> x.cellCount(0));
        addParadigm(x, "+a", "+b");
        addParadigm(x);
        due("cellCount(0)", x.cellCount(0), 2);
        due("cellCount(1)", x.cellCount(1), 0);
        for (int p : new int[] {-1, 2, LEAST, MOST}) {
            refused(x, "cellCount(" + p + ")", INDEX, () -> x.cellCount(p));
        }
    }

    private static void cell() {
        InflectionGuesser x = new InflectionGuesser();
        refused(x, "cell without paradigm", INDEX, () -> x.cell(0, 0, 0));
        addParadigm(x);
        addParadigm(x, "+abc", "abc>d", "*ab", "o!", ">abcd", "abcd>");
        String[] want = {"003", "131", "202", "330", "104", "140"};
        for (int c = 0; c < 6; c++) {
            String got = "" + x.cell(1, c, 0) + x.cell(1, c, 1) + x.cell(1, c, 2);
            due("cell(1, " + c + ", 0 to 2)", got, want[c]);
        }
        for (int what : new int[] {-1, 3, LEAST, MOST}) {
            refused(x, "cell(1, 0, " + what + ")", ARGUMENT, () -> x.cell(1, 0, what));
        }
        for (int c : new int[] {-1, 6, LEAST, MOST}) {
            refused(x, "cell(1, " + c + ", 3)", INDEX, () -> x.cell(1, c, 3));
        }
        refused(x, "cell(0, 0, 0)", INDEX, () -> x.cell(0, 0, 0));
        refused(x, "cell(-1, 0, 0)", INDEX, () -> x.cell(-1, 0, 0));
        refused(x, "cell(2, 0, 3)", INDEX, () -> x.cell(2, 0, 3));
    }

    private static void setCondition() {
        InflectionGuesser x = new InflectionGuesser();
        refused(x, "setCondition without paradigm", INDEX, () -> x.setCondition(0, 0, 0));
        x.addParadigm();
        x.addParadigm();
        type(x, "ab");
        due("setCondition(0, 1, 0)", x.setCondition(0, 1, 0), 0);
        due("setCondition(0, 2, 0)", x.setCondition(0, 2, 0), 1);
        due("setCondition(0, 3, 2)", x.setCondition(0, 3, 2), 2);
        due("setCondition(0, 3, 10)", x.setCondition(0, 3, 10), 3);
        due("input after the kinds 1 to 3", Checks.input(x), "ab");
        due("setCondition(0, 4, 0)", x.setCondition(0, 4, 0), 3);
        due("input after the kind 4", Checks.input(x), "");
        type(x, "cd");
        due("setCondition(0, 0, 0)", x.setCondition(0, 0, 0), 4);
        due("input after the kind 0", Checks.input(x), "cd");
        due("the other paradigm", x.setCondition(1, 1, 0), 0);
        for (int p : new int[] {-1, 2, LEAST, MOST}) {
            refused(x, "setCondition(" + p + ", 9, 9)", INDEX, () -> x.setCondition(p, 9, 9));
        }
        for (int kind : new int[] {-1, 5, LEAST, MOST}) {
            refused(x, "setCondition(0, " + kind + ", 0)", ARGUMENT, () -> x.setCondition(0, kind, 0));
        }
        for (int kind : new int[] {0, 1, 2, 4}) {
            refused(x, "parameter 1, kind " + kind, ARGUMENT, () -> x.setCondition(0, kind, 1));
            refused(x, "parameter -1, kind " + kind, ARGUMENT, () -> x.setCondition(0, kind, -1));
            refused(x, "parameter 2, kind " + kind, ARGUMENT, () -> x.setCondition(0, kind, 2));
        }
        for (int parameter : new int[] {0, 1, 11, -1, LEAST, MOST}) {
            refused(x, "kind 3, " + parameter, ARGUMENT, () -> x.setCondition(0, 3, parameter));
        }
        x.clearInput();
        refused(x, "kind 4 without letters", ARGUMENT, () -> x.setCondition(0, 4, 0));
        type(x, "abcde");
        refused(x, "kind 4 with 5 letters", ARGUMENT, () -> x.setCondition(0, 4, 0));
        due("kind 4 with 4 letters", type(x, "abcd").setCondition(0, 4, 0), 0);
        due("kind 4 with 1 letter", type(x, "a").setCondition(0, 4, 0), 4);
    }

    private static void fulfills() {
        InflectionGuesser x = new InflectionGuesser();
        refused(x, "fulfills without paradigm", INDEX, () -> x.fulfills(0));
        x.addParadigm();
        fulfill(x, "ab abcdefghij zz", " a abcdefghijk abcdefghijklmn");
        x.setCondition(0, 1, 0);
        fulfill(x, "ba be bi bo bu aa", "ab by bz bcdf a aaaaaaaaaaa");
        x.setCondition(0, 2, 0);
        fulfill(x, "ab by bz abcdefghij", "ba be bi bo bu z bcdfghjklmn");
        x.setCondition(0, 3, 5);
        fulfill(x, "abcde abcdefghij", "abcd ab abcdefghijk");
        x.setCondition(0, 3, 10);
        fulfill(x, "abcdefghij", "abcdefghi abcdefghijk");
        type(x, "ing").setCondition(0, 4, 0);
        fulfill(x, "ing sing abcdefging", "in ng ingo abcdefghing");
        type(x, "a").setCondition(0, 4, 0);
        fulfill(x, "ba aa", "a ab");
        type(x, "abcd").setCondition(0, 4, 0);
        fulfill(x, "abcd xabcd", "bcd abcde");
        type(x, "xabcd");
        due("input after fulfills", x.fulfills(0) + Checks.input(x), "truexabcd");
        for (int p : new int[] {-1, 1, LEAST, MOST}) {
            refused(x, "fulfills(" + p + ")", INDEX, () -> x.fulfills(p));
        }
    }

    private static void fulfill(InflectionGuesser x, String yes, String no) {
        for (String word : yes.split(" ")) {
            due("fulfills of " + word, type(x, word).fulfills(0), true);
        }
        for (String word : no.split(" ")) {
            due("fulfills of '" + word + "'", type(x, word).fulfills(0), false);
        }
    }

    private static void inflect() {
        InflectionGuesser x = new InflectionGuesser();
        type(x, "tip");
        refused(x, "inflect without paradigm", INDEX, () -> x.inflect(0, 0));
        addParadigm(x, "+s", "y>ies", "*ed", "e!n", "abcd>", "*abcd");
        inflected(x, 0, "tip", "tips");
        inflected(x, 0, "abcdefghij", "abcdefghijs");
        inflected(x, 1, "fly", "flies");
        inflected(x, 1, "tip", "throws.NoSuchElementException");
        inflected(x, 2, "tip", "tipped");
        inflected(x, 2, "go", "gooed");
        inflected(x, 3, "woman", "womenn");
        inflected(x, 3, "ab", "ebn");
        inflected(x, 3, "be", "ben");
        inflected(x, 3, "why", "throws.NoSuchElementException");
        inflected(x, 4, "abcd", "");
        inflected(x, 4, "xabcd", "x");
        inflected(x, 4, "bcd", "throws.NoSuchElementException");
        inflected(x, 5, "abcdefghi", "abcdefghiiabcd");
        inflected(x, 5, "abcdefghij", "throws.NoSuchElementException");
        x.setCondition(0, 3, 9);
        inflected(x, 0, "ab", "abs");
        type(x, "a");
        refused(x, "inflect of one letter", STATE, () -> x.inflect(0, 0));
        refused(x, "inflect of one letter, no form", STATE, () -> x.inflect(0, 1));
        refused(x, "inflect(0, 6) of one letter", INDEX, () -> x.inflect(0, 6));
        type(x, "abcdefghijk");
        refused(x, "inflect of eleven letters", STATE, () -> x.inflect(0, 0));
        x.clearInput();
        refused(x, "inflect of nothing", STATE, () -> x.inflect(0, 4));
        for (int n : new int[] {-1, 6, LEAST, MOST}) {
            refused(x, "inflect(0, " + n + ")", INDEX, () -> x.inflect(0, n));
            refused(x, "inflect(" + n + ", 0)", INDEX, () -> x.inflect(n, 0));
        }
    }

    private static void inflected(InflectionGuesser x, int cell, String stem, String want) {
        type(x, stem);
        String answer = Checks.answer(() -> x.inflect(0, cell));
        boolean thrown = want.startsWith("throws");
        due("inflect(0, " + cell + ") of " + stem, answer, thrown ? want : "" + want.length());
        due("the input after it", Checks.input(x), thrown ? stem : want);
    }

    // ---- 14 to 20: the word list

    private static void addWord() {
        InflectionGuesser x = new InflectionGuesser();
        refused(x, "addWord() of nothing", ARGUMENT, x::addWord);
        type(x, "a");
        refused(x, "addWord() of one letter", ARGUMENT, x::addWord);
        due("addWord() of 2 letters", type(x, "ab").addWord(), 0);
        due("input after addWord", x.clearInput(), 0);
        due("addWord() of 14 letters", type(x, "abcdefghijklmn").addWord(), 1);
        due("addWord() again", type(x, "ab").addWord(), 0);
        due("input after addWord again", x.clearInput(), 0);
        due("wordCount()", x.wordCount(), 2);
        due("addWord() of a longer one", type(x, "abc").addWord(), 2);
        due("addWord() of another end", type(x, "cb").addWord(), 3);
        for (int w = 4; w < 16; w++) {
            due("addWord()", type(x, "w" + (char) ('a' + w)).addWord(), w);
        }
        type(x, "xx");
        refused(x, "addWord() of a 17th", STATE, x::addWord);
        due("addWord() of a word in the full list", type(x, "abc").addWord(), 2);
        due("addWord() of the first word in it", type(x, "ab").addWord(), 0);
        type(x, "x");
        refused(x, "addWord() of one letter, full list", ARGUMENT, x::addWord);
        due("words", Checks.words(x),
                "ab abcdefghijklmn abc cb we wf wg wh wi wj wk wl wm wn wo wp");
    }

    private static void removeWord() {
        InflectionGuesser x = new InflectionGuesser();
        refused(x, "removeWord(0) of none", INDEX, () -> x.removeWord(0));
        addWords(x, "ab", "abcdefghijklmn", "cde", "fghi");
        type(x, "in");
        due("removeWord(1)", x.removeWord(1), 3);
        due("words", Checks.words(x), "ab cde fghi");
        due("input", Checks.input(x), "in");
        for (int w : new int[] {-1, 3, LEAST, MOST}) {
            refused(x, "removeWord(" + w + ")", INDEX, () -> x.removeWord(w));
        }
        due("removeWord(2)", x.removeWord(2), 2);
        due("removeWord(0)", x.removeWord(0), 1);
        due("words", Checks.words(x), "cde");
        due("addWord() of a removed one", type(x, "ab").addWord(), 1);
        due("removeWord(0)", x.removeWord(0), 1);
        due("removeWord(0)", x.removeWord(0), 0);
        for (int w = 0; w < 16; w++) {
            type(x, "w" + (char) ('a' + w)).addWord();
        }
        due("removeWord(0) of 16", x.removeWord(0), 15);
        due("words", Checks.words(x), "wb wc wd we wf wg wh wi wj wk wl wm wn wo wp");
        due("addWord() behind them", type(x, "wa").addWord(), 15);
    }

    private static void wordQuestions() {
        InflectionGuesser x = new InflectionGuesser();
        due("wordCount()", x.wordCount(), 0);
        refused(x, "wordLength(0)", INDEX, () -> x.wordLength(0));
        refused(x, "wordLetter(0, 0)", INDEX, () -> x.wordLetter(0, 0));
        addWords(x, "abcdefghijklmn", "xy");
        due("wordCount()", x.wordCount(), 2);
        due("wordLength(0)", x.wordLength(0), 14);
        due("wordLength(1)", x.wordLength(1), 2);
        due("wordLetter(0, 0)", x.wordLetter(0, 0), 'a');
        due("wordLetter(0, 13)", x.wordLetter(0, 13), 'n');
        due("wordLetter(1, 1)", x.wordLetter(1, 1), 'y');
        refused(x, "wordLetter(0, 14)", INDEX, () -> x.wordLetter(0, 14));
        refused(x, "wordLetter(1, 2)", INDEX, () -> x.wordLetter(1, 2));
        for (int n : new int[] {-1, LEAST, MOST}) {
            refused(x, "wordLetter(0, " + n + ")", INDEX, () -> x.wordLetter(0, n));
            refused(x, "wordLetter(" + n + ", 0)", INDEX, () -> x.wordLetter(n, 0));
            refused(x, "wordLength(" + n + ")", INDEX, () -> x.wordLength(n));
        }
        refused(x, "wordLength(2)", INDEX, () -> x.wordLength(2));
        refused(x, "wordLetter(2, 0)", INDEX, () -> x.wordLetter(2, 0));
    }

    private static void wordEndings() {
        InflectionGuesser x = new InflectionGuesser();
        refused(x, "longestEnding(0) of none", INDEX, () -> x.longestEnding(0));
        refused(x, "endings(0) of none", INDEX, () -> x.endings(0));
        addWords(x, "flies", "es", "zz");
        refused(x, "longestEnding(0) without cells", NONE, () -> x.longestEnding(0));
        due("endings(0) without cells", x.endings(0), 0);
        addParadigm(x, "+s", "lies>q", "y>ies");
        addParadigm(x, "*es", "i!s", "+aes");
        due("longestEnding(0)", x.longestEnding(0), 3);
        due("endings(0)", x.endings(0), 4);
        due("longestEnding(1)", x.longestEnding(1), 2);
        due("endings(1)", x.endings(1), 3);
        refused(x, "longestEnding(2)", NONE, () -> x.longestEnding(2));
        due("endings(2)", x.endings(2), 0);
        addCell(x, 1, "+");
        due("longestEnding(2) with an empty suffix", x.longestEnding(2), 0);
        due("endings(2) with an empty suffix", x.endings(2), 1);
        due("endings(0) with an empty suffix", x.endings(0), 5);
        addCell(x, 0, "abc>");
        due("endings(2) with an empty new ending", x.endings(2), 2);
        x.removeLastCell(0);
        x.removeLastCell(0);
        due("longestEnding(0) without ies", x.longestEnding(0), 2);
        for (int p = 2; p < 6; p++) {
            addParadigm(x, "+lies");
        }
        due("longestEnding(0) with 6 paradigms", x.longestEnding(0), 4);
        due("endings(0) with 6 paradigms", x.endings(0), 8);
        for (int w : new int[] {-1, 3, LEAST, MOST}) {
            refused(x, "longestEnding(" + w + ")", INDEX, () -> x.longestEnding(w));
            refused(x, "endings(" + w + ")", INDEX, () -> x.endings(w));
        }
    }

    // ---- 21 to 26: hypotheses

    private static void ranked(String what, InflectionGuesser x, String want) {
        due(what, Checks.hypotheses(x), want);
        due("hypothesisCount() of " + what, x.hypothesisCount(),
                want.isEmpty() ? 0 : want.split(" ").length);
    }

    private static void hypothesisKinds() {
        InflectionGuesser x = new InflectionGuesser();
        addParadigm(x, "+s");
        addWords(x, "cats", "as", "abcdefghijs", "abcdefghijks", "cat");
        ranked("append", x, "0abcdefghij10 0cat10");
        x = new InflectionGuesser();
        addParadigm(x, "y>ies");
        addWords(x, "flies", "ies", "iesy", "abcdefghiies", "abcdefghijies");
        ranked("replace", x, "0abcdefghiy10 0fly10");
        x = new InflectionGuesser();
        addParadigm(x, "abcd>");
        addWords(x, "xyzxyz", "xyzxyzu", "xy", "xyzxyzxyzxyzxy");
        ranked("replace by nothing", x, "0xyzxyzabcd10 0xyabcd10");
        x = new InflectionGuesser();
        addParadigm(x, "*ed");
        addWords(x, "stopped", "eed", "ooed", "oooed", "loped", "ed", "abcdefghijjed");
        ranked("double", x, "0abcdefghij10 0stop10 0oo10");
        x = new InflectionGuesser();
        addParadigm(x, "e!s");
        addWords(x, "mens", "mans", "pfs", "aebs", "es");
        ranked("change", x, "0aab10 0aeb10 0aib10 0aob10 0aub10 0man10 0men10 0min10 0mon10 0mun10");
        x = new InflectionGuesser();
        addParadigm(x, "e!s");
        addWords(x, "ebs");
        ranked("change of the first letter", x, "0ab10 0eb10 0ib10 0ob10 0ub10");
    }

    private static void hypothesisForms() {
        InflectionGuesser x = new InflectionGuesser();
        addParadigm(x, "+s", "+s", "y>ies", ">s", "*s");
        addWords(x, "cats");
        ranked("equal forms count once", x, "0cat11");
        due("attestedShare(0)", x.attestedShare(0), 0.5);
        addWords(x, "catts");
        ranked("two explained", x, "0cat20 0catt11");
        x = new InflectionGuesser();
        addParadigm(x, "+", "*abcd", "ghij>");
        addWords(x, "abcdefghij");
        ranked("a form of 15 letters is missing", x, "0abcdefghij12");
        addCell(x, 0, "*abcd");
        ranked("the same form of 15 letters", x, "0abcdefghij12");
        addCell(x, 0, "*abce");
        ranked("another form of 15 letters", x, "0abcdefghij13");
        x = new InflectionGuesser();
        addParadigm(x, "+", "ab>");
        addWords(x, "ab");
        ranked("an empty form is missing", x, "0abab11 0ab11");
        x = new InflectionGuesser();
        addParadigm(x, "+", "ab>", "abcd>", "cd>ab", "abcd>");
        addWords(x, "abcd");
        ranked("equal short forms count once", x, "0abcdab11 0abcdabcd12 0abcd12");
    }

    private static void hypothesisConditions() {
        InflectionGuesser x = new InflectionGuesser();
        addParadigm(x, "+", "+s");
        addWords(x, "cats", "sofas", "go");
        ranked("every stem", x, "0sofas11 0cats11 0sofa11 0cat11 0go11");
        x.setCondition(0, 1, 0);
        ranked("last vowel", x, "0sofa11 0go11");
        x.setCondition(0, 2, 0);
        ranked("last consonant", x, "0sofas11 0cats11 0cat11");
        x.setCondition(0, 3, 4);
        ranked("at least 4", x, "0sofas11 0cats11 0sofa11");
        type(x, "at").setCondition(0, 4, 0);
        ranked("ends in at", x, "0cat11");
        x.setCondition(0, 0, 0);
        x.removeLastCell(0);
        ranked("one cell", x, "0sofas10 0cats10 0go10");
        x.removeWord(0);
        ranked("one word fewer", x, "0sofas10 0go10");
        x.undo();
        ranked("after undo", x, "0sofas10 0cats10 0go10");
        x.save();
        addCell(x, 0, "+s");
        ranked("one cell more", x, "0sofas11 0cats11 0sofa11 0cat11 0go11");
        x.restore();
        ranked("after restore", x, "0sofas10 0cats10 0go10");
        x.addParadigm();
        ranked("one paradigm more", x, "0sofas10 0cats10 0go10");
        x.removeLastCell(0);
        ranked("no cell", x, "");
        due("explanations(0) without hypotheses", x.explanations(0), 0);
        due("cover() without hypotheses", x.cover(), 0);
    }

    private static void hypothesisOrder() {
        InflectionGuesser x = new InflectionGuesser();
        addParadigm(x, "+", "+s", "+ed", "+er");
        addParadigm(x, "+", "+s");
        addParadigm(x, "+s", "+");
        addWords(x, "bat", "bats", "cat", "cats", "cated", "hog");
        due("the order", Checks.hypotheses(x), "0cat31"
                + " 1bat20 1cat20 2bat20 2cat20"
                + " 0bat22"
                + " 1cated11 2cated11 1bats11 1cats11 2bats11 2cats11 1hog11 2hog11"
                + " 0cated13 0bats13 0cats13 0hog13");
        due("hypothesis(5, 0 to 3)", "" + x.hypothesis(5, 0) + x.hypothesis(5, 1)
                + x.hypothesis(5, 2) + x.hypothesis(5, 3), "0223");
    }

    private static void manyHypotheses() {
        InflectionGuesser x = new InflectionGuesser();
        for (int p = 0; p < 6; p++) {
            addParadigm(x, "a!", "e!", "i!", "o!", "u!", "a!b");
        }
        for (int w = 0; w < 16; w++) {
            addWords(x, "bc" + (char) ('a' + w) + "add");
        }
        due("hypothesisCount() of many", x.hypothesisCount(), 6 * 16 * 5);
        due("the first", Checks.stem(x, 0) + x.hypothesis(0, 0), "bcaadd0");
        due("the last", Checks.stem(x, 479) + x.hypothesis(479, 0), "bcpudd5");
        due("the missing forms", x.hypothesis(0, 2), 5);
        due("explanations(3)", x.explanations(3), 30);
    }

    private static void hypothesisQuestions() {
        InflectionGuesser x = new InflectionGuesser();
        refused(x, "hypothesis(0, 0) of none", INDEX, () -> x.hypothesis(0, 0));
        refused(x, "stemLetter(0, 0) of none", INDEX, () -> x.stemLetter(0, 0));
        refused(x, "attestedShare(0) of none", INDEX, () -> x.attestedShare(0));
        refused(x, "explains(0, 0) of none", INDEX, () -> x.explains(0, 0));
        refused(x, "explanations(0) of none", INDEX, () -> x.explanations(0));
        addParadigm(x);
        addParadigm(x, "+", "+s", "+en");
        addWords(x, "cat", "cats", "dog");
        ranked("questions", x, "1cat21 1cats12 1dog12");
        due("hypothesis(1, 3)", x.hypothesis(1, 3), 4);
        due("stemLetter(0, 0)", x.stemLetter(0, 0), 'c');
        due("stemLetter(1, 3)", x.stemLetter(1, 3), 's');
        due("explains(0, 0)", x.explains(0, 0), true);
        due("explains(0, 1)", x.explains(0, 1), true);
        due("explains(0, 2)", x.explains(0, 2), false);
        due("explains(1, 0)", x.explains(1, 0), false);
        due("explains(2, 2)", x.explains(2, 2), true);
        due("explanations(0)", x.explanations(0), 1);
        due("explanations(1)", x.explanations(1), 2);
        due("explanations(2)", x.explanations(2), 1);
        due("attestedShare(0)", x.attestedShare(0), 2.0 / 3.0);
        due("attestedShare(2)", x.attestedShare(2), 1.0 / 3.0);
        x.removeLastCell(1);
        due("attestedShare(0) of all", x.attestedShare(0), 1.0);
        for (int n : new int[] {-1, 3, LEAST, MOST}) {
            refused(x, "hypothesis(" + n + ", 4)", INDEX, () -> x.hypothesis(n, 4));
            refused(x, "stemLetter(" + n + ", 0)", INDEX, () -> x.stemLetter(n, 0));
            refused(x, "stemLetter(0, " + n + ")", INDEX, () -> x.stemLetter(0, n));
            refused(x, "attestedShare(" + n + ")", INDEX, () -> x.attestedShare(n));
            refused(x, "explains(" + n + ", 0)", INDEX, () -> x.explains(n, 0));
            refused(x, "explains(0, " + n + ")", INDEX, () -> x.explains(0, n));
            refused(x, "explanations(" + n + ")", INDEX, () -> x.explanations(n));
            refused(x, "accept(" + n + ")", INDEX, () -> x.accept(n));
        }
        for (int what : new int[] {-1, 4, LEAST, MOST}) {
            refused(x, "hypothesis(0, " + what + ")", ARGUMENT, () -> x.hypothesis(0, what));
        }
    }

    // ---- 27 to 39: lexemes

    private static void accept() {
        InflectionGuesser x = new InflectionGuesser();
        refused(x, "accept(0) of none", INDEX, () -> x.accept(0));
        addParadigm(x, "+");
        addParadigm(x, "+");
        addWords(x, "aa", "bb", "cc", "dd", "ee", "ff");
        type(x, "in");
        due("accept(0)", x.accept(0), 0);
        due("input after accept", Checks.input(x), "in");
        refused(x, "accept(0) again", STATE, () -> x.accept(0));
        due("accept of the same stem in another paradigm", acceptPair(x, 1, "aa"), 1);
        due("accept of another stem", acceptPair(x, 0, "ff"), 2);
        due("lexemes", stemOf(x, 0) + x.lexeme(0, 0) + stemOf(x, 1) + x.lexeme(1, 0)
                + stemOf(x, 2) + x.lexeme(2, 0), "aa0aa1ff0");
        for (int h = 1; x.lexemeCount() < 10; h++) {
            int hypothesis = h;
            Checks.answer(() -> x.accept(hypothesis));
        }
        int unused = find(x, 1, "ff");
        refused(x, "accept with 10 lexemes", STATE, () -> x.accept(unused));
        refused(x, "accept(12) with 10 lexemes", INDEX, () -> x.accept(12));
        due("lexemeCount()", x.lexemeCount(), 10);
    }

    private static void acceptOfTheLowestPair() {
        InflectionGuesser x = new InflectionGuesser();
        addParadigm(x, "+");
        addWords(x, "aaaaaaaaaa", "bb");
        due("accept(1)", x.accept(1), 0);
        due("accept(0)", x.accept(0), 1);
        due("the lexemes", stemOf(x, 0) + stemOf(x, 1), "bbaaaaaaaaaa");
        refused(x, "accept(0) again", STATE, () -> x.accept(0));
    }

    private static void newLexemeWithoutExceptions() {
        InflectionGuesser x = new InflectionGuesser();
        addParadigm(x, "+", "+s");
        addWords(x, "cat");
        x.accept(0);
        type(x, "katze").setException(0, 1);
        x.undo();
        x.undo();
        due("accept after undo", x.accept(0), 0);
        due("exceptions after undo and accept", x.lexeme(0, 2), 0);
        x.undo();
        due("cover after undo", x.cover(), 1);
        due("exceptions after undo and cover", x.lexeme(0, 2), 0);
    }

    private static void cover() {
        InflectionGuesser x = new InflectionGuesser();
        due("cover() of nothing", x.cover(), 0);
        due("undo() after it", x.undo(), 0);
        addParadigm(x, "+", "+s", "+ed");
        addParadigm(x, "+", "+er");
        addWords(x, "walk", "walks", "walked", "talk", "talker", "zz");
        type(x, "in");
        due("cover()", x.cover(), 3);
        due("input after cover", Checks.input(x), "in");
        due("the lexemes", stemOf(x, 0) + x.lexeme(0, 0) + stemOf(x, 1) + x.lexeme(1, 0)
                + stemOf(x, 2) + x.lexeme(2, 0), "walk0talk1zz1");
        due("uncovered()", x.uncovered(), 0);
        due("cover() again", x.cover(), 0);
        due("lexemeCount()", x.lexemeCount(), 3);
        x.undo();
        due("lexemeCount() after undo of nothing", x.lexemeCount(), 3);
        x.undo();
        due("lexemeCount() after undo of cover", x.lexemeCount(), 0);
    }

    private static void coverTakesMostUncovered() {
        InflectionGuesser x = new InflectionGuesser();
        addParadigm(x, "+", "+a", "+b");
        addParadigm(x, "+c", "+d", "+a", "+b");
        addWords(x, "xx", "xxa", "xxb", "xxc");
        acceptPair(x, 0, "xx");
        due("uncovered()", x.uncovered(), 1);
        due("cover()", x.cover(), 1);
        due("the lexeme", stemOf(x, 1) + x.lexeme(1, 0), "xx1");
        InflectionGuesser y = new InflectionGuesser();
        addParadigm(y, "+", "+s");
        addWords(y, "go", "gos");
        acceptPair(y, 0, "go");
        type(y, "went").setException(0, 1);
        due("uncovered() with an exception", y.uncovered(), 1);
        due("cover() without the pair that is a lexeme", y.cover(), 1);
        due("the lexeme", stemOf(y, 1) + y.lexeme(1, 0), "gos0");
        InflectionGuesser z = new InflectionGuesser();
        addParadigm(z, "+s");
        addWords(z, "gos", "zz");
        acceptPair(z, 0, "go");
        type(z, "went").setException(0, 0);
        due("cover() when the one hypothesis is a lexeme", z.cover(), 0);
        due("uncovered()", z.uncovered(), 2);
    }

    private static void coverStopsAtTen() {
        InflectionGuesser x = new InflectionGuesser();
        addParadigm(x, "+");
        for (int w = 0; w < 16; w++) {
            addWords(x, "z" + (char) ('p' - w));
        }
        acceptPair(x, 0, "zp");
        due("cover()", x.cover(), 9);
        due("lexemeCount()", x.lexemeCount(), 10);
        due("uncovered()", x.uncovered(), 6);
        due("the last lexeme", stemOf(x, 9), "zi");
        due("cover() with 10 lexemes", x.cover(), 0);
    }

    private static void lexemeQuestions() {
        InflectionGuesser x = new InflectionGuesser();
        due("lexemeCount()", x.lexemeCount(), 0);
        refused(x, "lexeme(0, 0) of none", INDEX, () -> x.lexeme(0, 0));
        refused(x, "takeStem(0) of none", INDEX, () -> x.takeStem(0));
        InflectionGuesser y = sample();
        due("lexemeCount()", y.lexemeCount(), 2);
        due("lexeme(1, 0 to 2)", "" + y.lexeme(1, 0) + y.lexeme(1, 1) + y.lexeme(1, 2), "130");
        for (int l : new int[] {-1, 2, LEAST, MOST}) {
            refused(y, "lexeme(" + l + ", 3)", INDEX, () -> y.lexeme(l, 3));
            refused(y, "takeStem(" + l + ")", INDEX, () -> y.takeStem(l));
        }
        for (int what : new int[] {-1, 3, LEAST, MOST}) {
            refused(y, "lexeme(0, " + what + ")", ARGUMENT, () -> y.lexeme(0, what));
        }
        type(y, "abcdefghijklmn");
        due("takeStem(1)", y.takeStem(1), 3);
        due("input after takeStem", Checks.input(y), "fly");
    }

    private static void exceptions() {
        InflectionGuesser x = sample();
        type(x, "flew");
        due("setException(1, 2)", x.setException(1, 2), 1);
        due("input after setException", x.clearInput(), 0);
        due("lexeme(1, 2)", x.lexeme(1, 2), 1);
        due("lexeme(0, 2)", x.lexeme(0, 2), 0);
        due("setException of 14 letters", type(x, "abcdefghijklmn").setException(1, 0), 2);
        due("the form", formOf(x, 1, 0), "abcdefghijklmn");
        due("setException of 2 letters", type(x, "fl").setException(1, 2), 2);
        due("setException anew", type(x, "flown").setException(1, 2), 2);
        due("the form", formOf(x, 1, 2), "flown");
        type(x, "in");
        due("clearException(1, 0)", x.clearException(1, 0), 1);
        due("input after clearException", Checks.input(x), "in");
        due("the form", formOf(x, 1, 0), "fly");
        refused(x, "clearException(1, 0) again", NONE, () -> x.clearException(1, 0));
        due("clearException(1, 2)", x.clearException(1, 2), 0);
        for (int n : new int[] {-1, 3, LEAST, MOST}) {
            refused(x, "setException(1, " + n + ")", INDEX, () -> x.setException(1, n));
            refused(x, "setException(" + n + ", 0)", INDEX, () -> x.setException(n, 0));
            refused(x, "clearException(1, " + n + ")", INDEX, () -> x.clearException(1, n));
            refused(x, "clearException(" + n + ", 0)", INDEX, () -> x.clearException(n, 0));
        }
        refused(x, "setException(0, 2) of two cells", INDEX, () -> x.setException(0, 2));
        refused(x, "clearException(0, 2) of two cells", INDEX, () -> x.clearException(0, 2));
        type(x, "a");
        refused(x, "setException of one letter", ARGUMENT, () -> x.setException(1, 0));
        refused(x, "setException(2, 0) of one letter", INDEX, () -> x.setException(2, 0));
    }

    private static void exceptionsOfLostCells() {
        InflectionGuesser x = sample();
        type(x, "flew").setException(1, 2);
        type(x, "flown").setException(1, 0);
        addWords(x, "flew");
        due("hasForm(1, 4)", x.hasForm(1, 4), true);
        x.removeLastCell(1);
        due("lexeme(1, 2) without the cell", x.lexeme(1, 2), 1);
        due("hasForm(1, 4) without the cell", x.hasForm(1, 4), false);
        due("lexemesOf(4) without the cell", x.lexemesOf(4), 0);
        due("missing(1) without the cell", x.missing(1), 1);
        refused(x, "missingCell(1, 1) without the cell", NONE, () -> x.missingCell(1, 1));
        x.removeWord(4);
        due("missing(1) without the cell and the word", x.missing(1), 1);
        refused(x, "missingCell(1, 1) without the word", NONE, () -> x.missingCell(1, 1));
        refused(x, "takeForm(1, 2) without the cell", INDEX, () -> x.takeForm(1, 2));
        refused(x, "clearException(1, 2) without the cell", INDEX, () -> x.clearException(1, 2));
        type(x, "went");
        due("setException(1, 1)", x.setException(1, 1), 2);
        addCell(x, 1, "*q");
        due("lexeme(1, 2) with a new cell", x.lexeme(1, 2), 3);
        due("the form in the new cell", formOf(x, 1, 2), "flew");
        due("clearException(1, 2)", x.clearException(1, 2), 2);
        due("the form in the new cell", formOf(x, 1, 2), "flyyq");
    }

    private static void takeForm() {
        InflectionGuesser x = sample();
        type(x, "abcdefghijklmn");
        due("takeForm(1, 1)", x.takeForm(1, 1), 5);
        due("input after takeForm", Checks.input(x), "flies");
        due("the form of append", formOf(x, 0, 1), "cats");
        addCell(x, 0, "y>ies");
        refused(x, "takeForm without form", NONE, () -> x.takeForm(0, 2));
        type(x, "cat").setException(0, 2);
        due("an exception where the cell has no form", formOf(x, 0, 2), "cat");
        addCell(x, 0, "cat>");
        due("an empty form", formOf(x, 0, 3), "");
        x.setCondition(0, 3, 9);
        due("the condition does not matter", formOf(x, 0, 1), "cats");
        for (int n : new int[] {-1, 4, LEAST, MOST}) {
            refused(x, "takeForm(0, " + n + ")", INDEX, () -> x.takeForm(0, n));
            refused(x, "takeForm(" + n + ", 0)", INDEX, () -> x.takeForm(n, 0));
        }
        InflectionGuesser y = new InflectionGuesser();
        addParadigm(y, "+", "*abcd", "+abcd");
        addWords(y, "abcdefghij");
        y.accept(0);
        type(y, "in");
        refused(y, "takeForm of 15 letters", NONE, () -> y.takeForm(0, 1));
        due("a form of 14 letters", formOf(y, 0, 2), "abcdefghijabcd");
        due("missing(0) with a form of 15 letters", y.missing(0), 2);
        due("missingCell(0, 0)", y.missingCell(0, 0), 1);
    }

    private static void formsOfLexemes() {
        InflectionGuesser x = sample();
        due("hasForm(0, 0)", x.hasForm(0, 0), true);
        due("hasForm(0, 1)", x.hasForm(0, 1), true);
        due("hasForm(0, 2)", x.hasForm(0, 2), false);
        due("hasForm(1, 3)", x.hasForm(1, 3), true);
        due("missing(0)", x.missing(0), 0);
        due("missing(1)", x.missing(1), 1);
        due("missingCell(1, 0)", x.missingCell(1, 0), 2);
        refused(x, "missingCell(0, 0)", NONE, () -> x.missingCell(0, 0));
        for (int n : new int[] {-1, 1, LEAST, MOST}) {
            refused(x, "missingCell(1, " + n + ")", NONE, () -> x.missingCell(1, n));
        }
        for (int n : new int[] {-1, 2, LEAST, MOST}) {
            refused(x, "missingCell(" + n + ", -1)", INDEX, () -> x.missingCell(n, -1));
            refused(x, "missing(" + n + ")", INDEX, () -> x.missing(n));
            refused(x, "hasForm(" + n + ", 0)", INDEX, () -> x.hasForm(n, 0));
        }
        for (int n : new int[] {-1, 4, LEAST, MOST}) {
            refused(x, "hasForm(0, " + n + ")", INDEX, () -> x.hasForm(0, n));
            refused(x, "lexemesOf(" + n + ")", INDEX, () -> x.lexemesOf(n));
        }
        type(x, "mice").setException(0, 0);
        due("hasForm(0, 0) under an exception", x.hasForm(0, 0), false);
        due("missing(0) with an exception", x.missing(0), 1);
        due("missingCell(0, 0)", x.missingCell(0, 0), 0);
        due("uncovered()", x.uncovered(), 1);
        due("lexemesOf(0)", x.lexemesOf(0), 0);
        type(x, "cats").setException(0, 0);
        due("missing(0) with two equal forms", x.missing(0), 0);
        due("lexemesOf(1) with two equal forms", x.lexemesOf(1), 1);
        x.removeWord(1);
        due("missing(0) counts cells", x.missing(0), 2);
        due("missingCell(0, 1)", x.missingCell(0, 1), 1);
        addCell(x, 0, "y>ies");
        due("missing(0) with a cell without form", x.missing(0), 2);
        type(x, "fly").setException(0, 2);
        due("lexemesOf(1) with two lexemes", x.lexemesOf(1), 2);
    }

    private static void uncovered() {
        InflectionGuesser x = sample();
        due("uncovered()", x.uncovered(), 0);
        addWords(x, "dog", "flying");
        due("uncovered() with a new word", x.uncovered(), 1);
        x.removeLastCell(1);
        due("uncovered() without a cell", x.uncovered(), 2);
        x.setCondition(1, 1, 0);
        due("uncovered() under a condition", x.uncovered(), 2);
        x.removeWord(4);
        due("uncovered() without a word", x.uncovered(), 1);
    }

    // ---- 40 to 42: history and saving

    private static void undo() {
        InflectionGuesser x = new InflectionGuesser();
        refused(x, "undo() of nothing", NONE, x::undo);
        String[] looks = new String[10];
        looks[0] = Checks.look(x);
        x.addParadigm();
        looks[1] = Checks.look(x);
        addCell(x, 0, "+s");
        looks[2] = Checks.look(x);
        addCell(x, 0, "+");
        looks[3] = Checks.look(x);
        addWords(x, "cats");
        looks[4] = Checks.look(x);
        x.setCondition(0, 3, 3);
        looks[5] = Checks.look(x);
        x.accept(0);
        looks[6] = Checks.look(x);
        type(x, "katzen").setException(0, 1);
        looks[7] = Checks.look(x);
        x.clearException(0, 1);
        looks[8] = Checks.look(x);
        x.removeLastCell(0);
        looks[9] = Checks.look(x);
        x.removeWord(0);
        for (int left = 9; left >= 0; left--) {
            due("undo()", x.undo(), left);
            due("what undo() made of it", Checks.look(x), looks[left]);
        }
        refused(x, "undo() of nothing more", NONE, x::undo);
    }

    /** Undo and restore bring back what a later call has written over. */
    private static void whatWasWrittenOver() {
        InflectionGuesser x = sample();
        type(x, "ly").setCondition(1, 4, 0);
        x.setCondition(0, 3, 3);
        acceptPair(x, 0, "flies");
        type(x, "flown").setException(2, 1);
        String before = Checks.look(x);
        x.save();
        x.removeLastCell(1);
        x.removeLastCell(1);
        addCell(x, 1, "*abc");
        type(x, "ab").setCondition(1, 4, 0);
        x.setCondition(0, 3, 4);
        type(x, "wrote").setException(2, 1);
        x.removeWord(0);
        addWords(x, "other");
        for (int i = 0; i < 8; i++) {
            x.undo();
        }
        due("what undo() made", Checks.look(x), before);
        x.undo();
        x.undo();
        addWords(x, "dog");
        acceptPair(x, 0, "dog");
        due("the other lexeme", stemOf(x, 2), "dog");
        x.restore();
        due("what restore() made", Checks.look(x), before);
    }

    private static void undoKeepsTen() {
        InflectionGuesser x = new InflectionGuesser();
        for (int w = 0; w < 13; w++) {
            addWords(x, "w" + (char) ('a' + w));
        }
        type(x, "in");
        for (int left = 9; left >= 0; left--) {
            due("undo()", x.undo(), left);
            due("wordCount()", x.wordCount(), 3 + left);
        }
        due("input after undo", Checks.input(x), "in");
        refused(x, "an eleventh undo()", NONE, x::undo);
        due("words", Checks.words(x), "wa wb wc");
        addWords(x, "xx", "yy");
        due("undo()", x.undo(), 1);
        due("words", Checks.words(x), "wa wb wc xx");
    }

    private static void whatIsRemembered() {
        InflectionGuesser x = sample();
        x.save();
        x.restore();
        due("the history after restore", historyLength(x), 0);
        addWords(x, "cat");
        x.setCondition(0, 0, 0);
        x.cover();
        due("calls that change nothing are remembered", historyLength(x), 3);
        String before = Checks.look(x);
        type(x, "abcde");
        x.takeStem(0);
        x.inflect(0, 1);
        x.takeForm(1, 1);
        x.fulfills(0);
        x.save();
        x.clearInput();
        x.hypothesisCount();
        due("questions and the input are not remembered", historyLength(x), 0);
        due("nor do they change anything", Checks.look(x), before);
        Checks.answer(() -> x.addCell(9, 0, 0));
        Checks.answer(() -> x.addCell(0, 9, 0));
        Checks.answer(() -> x.setCondition(0, 9, 0));
        Checks.answer(() -> x.removeLastCell(9));
        Checks.answer(x::addWord);
        Checks.answer(() -> x.removeWord(9));
        Checks.answer(() -> x.accept(99));
        Checks.answer(() -> x.accept(find(x, 0, "cat")));
        Checks.answer(() -> x.setException(0, 0));
        Checks.answer(() -> x.clearException(0, 0));
        due("refused calls are not remembered", historyLength(x), 0);
    }

    private static void saveAndRestore() {
        InflectionGuesser x = new InflectionGuesser();
        refused(x, "restore() of nothing", STATE, x::restore);
        due("save() of nothing", x.save(), 0);
        InflectionGuesser y = sample();
        String before = Checks.look(y);
        due("save()", y.save(), 2);
        due("what save() left", Checks.look(y), before);
        due("undo() after save()", y.undo(), 9);
        due("lexemeCount()", y.lexemeCount(), 1);
        y.removeWord(0);
        y.addParadigm();
        y.setCondition(0, 1, 0);
        y.removeLastCell(1);
        type(y, "went").setException(0, 0);
        type(y, "in");
        due("restore()", y.restore(), 2);
        due("input after restore()", Checks.input(y), "in");
        y.clearInput();
        due("what restore() made", Checks.look(y), before);
        refused(y, "undo() after restore()", NONE, y::undo);
        type(y, "flew").setException(1, 2);
        due("restore() again", y.restore(), 2);
        due("what restore() made again", Checks.look(y), before);
        y.removeWord(0);
        due("save() anew", y.save(), 2);
        y.undo();
        due("wordCount() after undo()", y.wordCount(), 4);
        due("restore() of the new one", y.restore(), 2);
        due("words of the new one", Checks.words(y), "cats fly flies");
    }

    public static void main(String[] args) {
        test("1", PromiseTests::newObject);
        test("2", PromiseTests::append);
        test("3", PromiseTests::clearInput);
        test("4", PromiseTests::inputLetter);
        test("5, 6", PromiseTests::paradigms);
        test("5, 40", PromiseTests::newParadigmAfterUndo);
        test("7", PromiseTests::addCell);
        test("8", PromiseTests::removeLastCell);
        test("9", PromiseTests::cellCount);
        test("10", PromiseTests::cell);
        test("11", PromiseTests::setCondition);
        test("12", PromiseTests::fulfills);
        test("13", PromiseTests::inflect);
        test("14", PromiseTests::addWord);
        test("15", PromiseTests::removeWord);
        test("16, 17, 18", PromiseTests::wordQuestions);
        test("19, 20", PromiseTests::wordEndings);
        test("21, kinds of cells", PromiseTests::hypothesisKinds);
        test("21, 22, forms", PromiseTests::hypothesisForms);
        test("21, conditions", PromiseTests::hypothesisConditions);
        test("22, 23, order", PromiseTests::hypothesisOrder);
        test("21, 25, many", PromiseTests::manyHypotheses);
        test("22 to 27, questions", PromiseTests::hypothesisQuestions);
        test("27", PromiseTests::accept);
        test("27, lowest", PromiseTests::acceptOfTheLowestPair);
        test("27, 28, 40", PromiseTests::newLexemeWithoutExceptions);
        test("28", PromiseTests::cover);
        test("28, most", PromiseTests::coverTakesMostUncovered);
        test("28, ten", PromiseTests::coverStopsAtTen);
        test("29, 30, 31", PromiseTests::lexemeQuestions);
        test("32, 33", PromiseTests::exceptions);
        test("30, 32 to 35", PromiseTests::exceptionsOfLostCells);
        test("34", PromiseTests::takeForm);
        test("35, 36, 37, 39", PromiseTests::formsOfLexemes);
        test("38", PromiseTests::uncovered);
        test("40", PromiseTests::undo);
        test("40, 42, written over", PromiseTests::whatWasWrittenOver);
        test("40, ten", PromiseTests::undoKeepsTen);
        test("40, what is remembered", PromiseTests::whatIsRemembered);
        test("41, 42", PromiseTests::saveAndRestore);
        Checks.end();
    }

    /** An exception that nothing foresaw counts as a wrong answer and does not stop the others. */
    private static void test(String promises, Runnable body) {
        Checks.part("promise " + promises);
        try {
            body.run();
        } catch (RuntimeException e) {
            Checks.due("the test", e.toString(), "an end");
        }
    }
}
