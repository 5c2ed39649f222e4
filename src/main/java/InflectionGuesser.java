import java.util.NoSuchElementException;

/**
 * A guesser of inflection classes: it keeps paradigms, a list of attested words and lexemes, and
 * ranks the hypotheses about stems and paradigms that explain the words.
 *
 * <p>All rows are made in the constructor and used again, so that no call makes an object other
 * than the exception that it throws.
 */
public final class InflectionGuesser {
    private static final int PARADIGM_LIMIT = 6;
    private static final int CELL_LIMIT = 6;
    private static final int WORD_LIMIT = 16;
    private static final int LEXEME_LIMIT = 10;
    private static final int HISTORY_LIMIT = 10;
    private static final int VOWEL_COUNT = 5;

    /** The least number of letters of stems, attested words and exceptions alike. */
    private static final int SHORTEST_WORD = 2;
    private static final int LONGEST_WORD = 14;
    private static final int LONGEST_STEM = 10;
    private static final int LONGEST_ENDING = 4;
    /** A stem, its last letter once more, and a suffix. */
    private static final int LONGEST_FORM = LONGEST_STEM + 1 + LONGEST_ENDING;

    private static final int APPEND = 0;
    private static final int REPLACE = 1;
    private static final int DOUBLE = 2;
    private static final int CHANGE = 3;

    private static final int EVERY_STEM = 0;
    private static final int LAST_VOWEL = 1;
    private static final int LAST_CONSONANT = 2;
    private static final int LEAST_LENGTH = 3;
    private static final int GIVEN_END = 4;

    private static final char[] VOWELS = {'a', 'e', 'i', 'o', 'u'};

    private final Word input = new Word();
    private final State state = new State();
    private final State savedState = new State();
    private boolean isSaved;
    private final History history = new History();
    private final Hypotheses ranking = new Hypotheses();
    private final Word stem = new Word();
    private final Word form = new Word();

    /** Creates an object without paradigms, words and lexemes. */
    public InflectionGuesser() {
    }

    // ---- input

    public int append(char letter) throws IllegalArgumentException, IllegalStateException {
        if (letter < 'a' || letter > 'z') {
            throw new IllegalArgumentException("the letter is not from a to z");
        }
        if (input.length >= LONGEST_WORD) {
            throw new IllegalStateException("the input is full");
        }
        input.add(letter);
        return input.length;
    }

    public int clearInput() {
        int previous = input.length;
        input.clear();
        return previous;
    }

    public char inputLetter(int index) throws IndexOutOfBoundsException {
        if (index < 0 || index >= input.length) {
            throw new IndexOutOfBoundsException("the input has no such letter");
        }
        return input.letters[index];
    }

    // ---- paradigms

    public int addParadigm() throws IllegalStateException {
        if (state.paradigmCount >= PARADIGM_LIMIT) {
            throw new IllegalStateException("there are 6 paradigms");
        }
        history.push(state);
        ranking.isStale = true;
        return state.newParadigm();
    }

    public int paradigmCount() {
        return state.paradigmCount;
    }

    public int addCell(int paradigm, int kind, int parameter)
            throws IndexOutOfBoundsException, IllegalArgumentException, IllegalStateException {
        checkParadigm(paradigm);
        if (!isCellParameter(kind, parameter)) {
            throw new IllegalArgumentException("the kind or the parameter is out of range");
        }
        int oldLength = kind == REPLACE ? parameter : 0;
        if (oldLength > LONGEST_ENDING || input.length - oldLength > LONGEST_ENDING) {
            throw new IllegalArgumentException("an ending has more than 4 letters");
        }
        if (state.cellCounts[paradigm] >= CELL_LIMIT) {
            throw new IllegalStateException("the paradigm has 6 cells");
        }
        history.push(state);
        ranking.isStale = true;
        int cell = state.newCell(paradigm, kind, parameter);
        int slot = cellSlot(paradigm, cell);
        state.oldEndings.put(slot, input, 0, oldLength);
        state.newEndings.put(slot, input, oldLength, input.length);
        input.clear();
        return cell;
    }

    private boolean isCellParameter(int kind, int parameter) {
        switch (kind) {
            case APPEND:
            case DOUBLE:
                return parameter == 0;
            case REPLACE:
                return parameter >= 0 && parameter <= input.length;
            case CHANGE:
                return parameter >= 0 && parameter < VOWEL_COUNT;
            default:
                return false;
        }
    }

    public int removeLastCell(int paradigm)
            throws IndexOutOfBoundsException, NoSuchElementException {
        checkParadigm(paradigm);
        if (state.cellCounts[paradigm] == 0) {
            throw new NoSuchElementException("the paradigm has no cell");
        }
        history.push(state);
        ranking.isStale = true;
        state.cellCounts[paradigm]--;
        return state.cellCounts[paradigm];
    }

    public int cellCount(int paradigm) throws IndexOutOfBoundsException {
        checkParadigm(paradigm);
        return state.cellCounts[paradigm];
    }

    public int cell(int paradigm, int cell, int what)
            throws IndexOutOfBoundsException, IllegalArgumentException {
        checkCell(paradigm, cell);
        int slot = cellSlot(paradigm, cell);
        switch (what) {
            case 0:
                return state.cellKinds[slot];
            case 1:
                return state.cellParameters[slot];
            case 2:
                return state.newEndings.lengths[slot];
            default:
                throw new IllegalArgumentException("what is not 0 to 2");
        }
    }

    public int setCondition(int paradigm, int kind, int parameter)
            throws IndexOutOfBoundsException, IllegalArgumentException {
        checkParadigm(paradigm);
        if (!isConditionParameter(kind, parameter)) {
            throw new IllegalArgumentException("the kind or the parameter is out of range");
        }
        if (kind == GIVEN_END && (input.length == 0 || input.length > LONGEST_ENDING)) {
            throw new IllegalArgumentException("the input has no letter or more than 4");
        }
        history.push(state);
        ranking.isStale = true;
        int previous = state.conditionKinds[paradigm];
        state.conditionKinds[paradigm] = kind;
        state.conditionParameters[paradigm] = parameter;
        if (kind == GIVEN_END) {
            state.conditionEnds.put(paradigm, input, 0, input.length);
            input.clear();
        }
        return previous;
    }

    private static boolean isConditionParameter(int kind, int parameter) {
        if (kind < EVERY_STEM || kind > GIVEN_END) {
            return false;
        }
        if (kind == LEAST_LENGTH) {
            return parameter >= SHORTEST_WORD && parameter <= LONGEST_STEM;
        }
        return parameter == 0;
    }

    public boolean fulfills(int paradigm) throws IndexOutOfBoundsException {
        checkParadigm(paradigm);
        return state.allows(paradigm, input);
    }

    public int inflect(int paradigm, int cell)
            throws IndexOutOfBoundsException, IllegalStateException, NoSuchElementException {
        checkCell(paradigm, cell);
        if (!input.isStem()) {
            throw new IllegalStateException("the input is not a stem");
        }
        boolean hasOne = state.build(cellSlot(paradigm, cell), input, form);
        return takeBuiltForm(hasOne);
    }

    /** The form that was just built becomes the input, if the input can hold it. */
    private int takeBuiltForm(boolean hasOne) {
        if (!hasOne || form.length > LONGEST_WORD) {
            throw new NoSuchElementException("there is no form, or it has more than 14 letters");
        }
        input.become(form);
        return input.length;
    }

    // ---- word list

    public int addWord() throws IllegalArgumentException, IllegalStateException {
        if (input.length < SHORTEST_WORD) {
            throw new IllegalArgumentException("the input has fewer than 2 letters");
        }
        int word = state.words.find(input, state.wordCount);
        if (word < 0 && state.wordCount >= WORD_LIMIT) {
            throw new IllegalStateException("the list has 16 words");
        }
        history.push(state);
        if (word < 0) {
            ranking.isStale = true;
            word = state.wordCount;
            state.words.put(word, input, 0, input.length);
            state.wordCount++;
        }
        input.clear();
        return word;
    }

    public int removeWord(int word) throws IndexOutOfBoundsException {
        checkWord(word);
        history.push(state);
        ranking.isStale = true;
        state.words.closeGap(word, state.wordCount);
        state.wordCount--;
        return state.wordCount;
    }

    public int wordCount() {
        return state.wordCount;
    }

    public int wordLength(int word) throws IndexOutOfBoundsException {
        checkWord(word);
        return state.words.lengths[word];
    }

    public char wordLetter(int word, int index) throws IndexOutOfBoundsException {
        checkWord(word);
        if (index < 0 || index >= state.words.lengths[word]) {
            throw new IndexOutOfBoundsException("the word has no such letter");
        }
        return state.words.letterAt(word, index);
    }

    public int longestEnding(int word) throws IndexOutOfBoundsException, NoSuchElementException {
        checkWord(word);
        form.clear();
        state.words.addTo(word, form);
        int longest = -1;
        for (int paradigm = 0; paradigm < state.paradigmCount; paradigm++) {
            for (int cell = 0; cell < state.cellCounts[paradigm]; cell++) {
                int slot = cellSlot(paradigm, cell);
                if (state.newEndings.isEndOf(slot, form)) {
                    longest = Math.max(longest, state.newEndings.lengths[slot]);
                }
            }
        }
        if (longest < 0) {
            throw new NoSuchElementException("the word ends in no suffix or new ending");
        }
        return longest;
    }

    public int endings(int word) throws IndexOutOfBoundsException {
        checkWord(word);
        form.clear();
        state.words.addTo(word, form);
        int count = 0;
        for (int paradigm = 0; paradigm < state.paradigmCount; paradigm++) {
            for (int cell = 0; cell < state.cellCounts[paradigm]; cell++) {
                if (state.newEndings.isEndOf(cellSlot(paradigm, cell), form)) {
                    count++;
                }
            }
        }
        return count;
    }

    // ---- hypotheses

    public int hypothesisCount() {
        ranking.refresh(state);
        return ranking.count;
    }

    public int hypothesis(int hypothesis, int what)
            throws IndexOutOfBoundsException, IllegalArgumentException {
        checkHypothesis(hypothesis);
        long key = ranking.keys[hypothesis];
        switch (what) {
            case 0:
                return Key.paradigm(key);
            case 1:
                return Key.explained(key);
            case 2:
                return Key.unattested(key);
            case 3:
                return Key.stemLength(key);
            default:
                throw new IllegalArgumentException("what is not 0 to 3");
        }
    }

    public char stemLetter(int hypothesis, int index) throws IndexOutOfBoundsException {
        checkHypothesis(hypothesis);
        long key = ranking.keys[hypothesis];
        if (index < 0 || index >= Key.stemLength(key)) {
            throw new IndexOutOfBoundsException("the stem has no such letter");
        }
        return Key.letterOfStem(key, index);
    }

    public boolean explains(int hypothesis, int word) throws IndexOutOfBoundsException {
        checkHypothesis(hypothesis);
        checkWord(word);
        return hasBit(ranking.explainedWords[hypothesis], word);
    }

    public int explanations(int word) throws IndexOutOfBoundsException {
        checkWord(word);
        ranking.refresh(state);
        int count = 0;
        for (int i = 0; i < ranking.count; i++) {
            if (hasBit(ranking.explainedWords[i], word)) {
                count++;
            }
        }
        return count;
    }

    public double attestedShare(int hypothesis) throws IndexOutOfBoundsException {
        checkHypothesis(hypothesis);
        long key = ranking.keys[hypothesis];
        int explained = Key.explained(key);
        int forms = explained + Key.unattested(key);
        return forms == 0 ? 0.0 : (double) explained / (double) forms;
    }

    // ---- lexemes

    public int accept(int hypothesis) throws IndexOutOfBoundsException, IllegalStateException {
        checkHypothesis(hypothesis);
        long pair = Key.pair(ranking.keys[hypothesis]);
        if (state.lexemeCount >= LEXEME_LIMIT) {
            throw new IllegalStateException("there are 10 lexemes");
        }
        if (state.hasLexeme(pair)) {
            throw new IllegalStateException("there is a lexeme with this paradigm and stem");
        }
        history.push(state);
        return state.newLexeme(pair);
    }

    public int cover() {
        history.push(state);
        ranking.refresh(state);
        int open = ~coveredWords();
        int accepted = 0;
        for (int room = LEXEME_LIMIT - state.lexemeCount; room > 0; room--) {
            int best = bestFor(open);
            if (best < 0) {
                break;
            }
            state.newLexeme(Key.pair(ranking.keys[best]));
            open = open & ~ranking.explainedWords[best];
            accepted++;
        }
        return accepted;
    }

    /** The first hypothesis without a lexeme that explains the most open words, or -1. */
    private int bestFor(int open) {
        int best = -1;
        int most = 0;
        for (int i = 0; i < ranking.count; i++) {
            int explained = Integer.bitCount(ranking.explainedWords[i] & open);
            if (explained > most && !state.hasLexeme(Key.pair(ranking.keys[i]))) {
                best = i;
                most = explained;
            }
        }
        return best;
    }

    public int lexemeCount() {
        return state.lexemeCount;
    }

    public int lexeme(int lexeme, int what)
            throws IndexOutOfBoundsException, IllegalArgumentException {
        checkLexeme(lexeme);
        switch (what) {
            case 0:
                return Key.paradigm(state.lexemes[lexeme]);
            case 1:
                return Key.stemLength(state.lexemes[lexeme]);
            case 2:
                return state.exceptionCount(lexeme);
            default:
                throw new IllegalArgumentException("what is not 0 to 2");
        }
    }

    public int takeStem(int lexeme) throws IndexOutOfBoundsException {
        checkLexeme(lexeme);
        Key.unpackStem(state.lexemes[lexeme], input);
        return input.length;
    }

    public int setException(int lexeme, int cell)
            throws IndexOutOfBoundsException, IllegalArgumentException {
        checkLexemeCell(lexeme, cell);
        if (input.length < SHORTEST_WORD) {
            throw new IllegalArgumentException("the input has fewer than 2 letters");
        }
        history.push(state);
        state.exceptions.put(cellSlot(lexeme, cell), input, 0, input.length);
        input.clear();
        return state.exceptionCount(lexeme);
    }

    public int clearException(int lexeme, int cell)
            throws IndexOutOfBoundsException, NoSuchElementException {
        checkLexemeCell(lexeme, cell);
        if (!state.hasException(lexeme, cell)) {
            throw new NoSuchElementException("there is no exception");
        }
        history.push(state);
        state.dropException(lexeme, cell);
        return state.exceptionCount(lexeme);
    }

    public int takeForm(int lexeme, int cell)
            throws IndexOutOfBoundsException, NoSuchElementException {
        checkLexemeCell(lexeme, cell);
        boolean hasOne = buildLexemeForm(lexeme, cell);
        return takeBuiltForm(hasOne);
    }

    public boolean hasForm(int lexeme, int word) throws IndexOutOfBoundsException {
        checkLexeme(lexeme);
        checkWord(word);
        return hasBit(attestedForms(lexeme), word);
    }

    public int missing(int lexeme) throws IndexOutOfBoundsException {
        checkLexeme(lexeme);
        int cells = state.cellCounts[Key.paradigm(state.lexemes[lexeme])];
        int count = 0;
        for (int cell = 0; cell < cells; cell++) {
            if (lacksForm(lexeme, cell)) {
                count++;
            }
        }
        return count;
    }

    public int missingCell(int lexeme, int index)
            throws IndexOutOfBoundsException, NoSuchElementException {
        checkLexeme(lexeme);
        int cells = state.cellCounts[Key.paradigm(state.lexemes[lexeme])];
        int count = 0;
        for (int cell = 0; cell < cells; cell++) {
            if (lacksForm(lexeme, cell)) {
                if (count == index) {
                    return cell;
                }
                count++;
            }
        }
        throw new NoSuchElementException("there is no such cell");
    }

    public int uncovered() {
        return state.wordCount - Integer.bitCount(coveredWords());
    }

    public int lexemesOf(int word) throws IndexOutOfBoundsException {
        checkWord(word);
        int count = 0;
        for (int lexeme = 0; lexeme < state.lexemeCount; lexeme++) {
            if (hasBit(attestedForms(lexeme), word)) {
                count++;
            }
        }
        return count;
    }

    /** Builds the form of a lexeme in a cell; answers false if there is none. */
    private boolean buildLexemeForm(int lexeme, int cell) {
        if (state.hasException(lexeme, cell)) {
            form.clear();
            state.exceptions.addTo(cellSlot(lexeme, cell), form);
            return true;
        }
        long pair = state.lexemes[lexeme];
        Key.unpackStem(pair, stem);
        return state.build(cellSlot(Key.paradigm(pair), cell), stem, form);
    }

    /** Whether a lexeme has a form in a cell that is not attested. */
    private boolean lacksForm(int lexeme, int cell) {
        return buildLexemeForm(lexeme, cell) && state.words.find(form, state.wordCount) < 0;
    }

    /** The attested words that are forms of a lexeme, a bit each. */
    private int attestedForms(int lexeme) {
        int cells = state.cellCounts[Key.paradigm(state.lexemes[lexeme])];
        int attested = 0;
        for (int cell = 0; cell < cells; cell++) {
            if (buildLexemeForm(lexeme, cell)) {
                int word = state.words.find(form, state.wordCount);
                if (word >= 0) {
                    attested |= 1 << word;
                }
            }
        }
        return attested;
    }

    /** The attested words that are forms of any lexeme, a bit each. */
    private int coveredWords() {
        int covered = 0;
        for (int lexeme = 0; lexeme < state.lexemeCount; lexeme++) {
            covered |= attestedForms(lexeme);
        }
        return covered;
    }

    // ---- history and saving

    public int undo() throws NoSuchElementException {
        if (history.count == 0) {
            throw new NoSuchElementException("the history is empty");
        }
        history.pop(state);
        ranking.isStale = true;
        return history.count;
    }

    public int save() {
        savedState.copyFrom(state);
        isSaved = true;
        return state.lexemeCount;
    }

    public int restore() throws IllegalStateException {
        if (!isSaved) {
            throw new IllegalStateException("nothing was saved");
        }
        state.copyFrom(savedState);
        history.forget();
        ranking.isStale = true;
        return state.lexemeCount;
    }

    // ---- what the arguments must name

    private void checkParadigm(int paradigm) {
        if (paradigm < 0 || paradigm >= state.paradigmCount) {
            throw new IndexOutOfBoundsException("there is no such paradigm");
        }
    }

    private void checkCell(int paradigm, int cell) {
        checkParadigm(paradigm);
        if (cell < 0 || cell >= state.cellCounts[paradigm]) {
            throw new IndexOutOfBoundsException("there is no such cell");
        }
    }

    private void checkWord(int word) {
        if (word < 0 || word >= state.wordCount) {
            throw new IndexOutOfBoundsException("there is no such word");
        }
    }

    private void checkHypothesis(int hypothesis) {
        ranking.refresh(state);
        if (hypothesis < 0 || hypothesis >= ranking.count) {
            throw new IndexOutOfBoundsException("there is no such hypothesis");
        }
    }

    private void checkLexeme(int lexeme) {
        if (lexeme < 0 || lexeme >= state.lexemeCount) {
            throw new IndexOutOfBoundsException("there is no such lexeme");
        }
    }

    private void checkLexemeCell(int lexeme, int cell) {
        checkLexeme(lexeme);
        checkCell(Key.paradigm(state.lexemes[lexeme]), cell);
    }

    private static boolean hasBit(int bits, int index) {
        return (bits >> index & 1) == 1;
    }

    private static boolean isVowel(char letter) {
        return letter == 'a' || letter == 'e' || letter == 'i' || letter == 'o' || letter == 'u';
    }

    /** The place of a cell of a paradigm, or of a lexeme's exception for a cell, in its table. */
    private static int cellSlot(int owner, int cell) {
        return owner * CELL_LIMIT + cell;
    }

    /** A word in a row of its own that is written anew again and again. */
    private static final class Word {
        /** The longest that is ever written: a word of the list with an old ending behind it. */
        private static final int ROOM = LONGEST_WORD + LONGEST_ENDING;

        private final char[] letters = new char[ROOM];
        private int length;

        void clear() {
            length = 0;
        }

        void add(char letter) {
            if (length < ROOM) {
                letters[length] = letter;
                length++;
            }
        }

        void become(Word other) {
            for (int i = 0; i < other.length; i++) {
                letters[i] = other.letters[i];
            }
            length = other.length;
        }

        void dropLast(int count) {
            length = Math.max(0, length - count);
        }

        boolean isStem() {
            return length >= SHORTEST_WORD && length <= LONGEST_STEM;
        }

        boolean endsInVowel() {
            return length > 0 && isVowel(letters[length - 1]);
        }

        boolean endsInDouble() {
            return length > 1 && letters[length - 1] == letters[length - 2];
        }

        /** The index of the last vowel, or -1. */
        int lastVowel() {
            for (int i = length - 1; i >= 0; i--) {
                if (isVowel(letters[i])) {
                    return i;
                }
            }
            return -1;
        }
    }

    /** Words side by side in one row, so that a copy of all of them is quick. */
    private static final class WordTable {
        private final int width;
        private final int[] lengths;
        private final char[] letters;

        WordTable(int slots, int width) {
            this.width = width;
            this.lengths = new int[slots];
            this.letters = new char[slots * width];
        }

        /** The other table has the same number of slots and the same width. */
        void copyFrom(WordTable other) {
            System.arraycopy(other.lengths, 0, lengths, 0, lengths.length);
            System.arraycopy(other.letters, 0, letters, 0, letters.length);
        }

        char letterAt(int slot, int index) {
            return letters[slot * width + index];
        }

        /** Writes the letters of a word from one index up to before another, if they fit. */
        void put(int slot, Word word, int from, int to) {
            if (to - from > width) {
                return;
            }
            int base = slot * width - from;
            for (int i = from; i < to; i++) {
                letters[base + i] = word.letters[i];
            }
            lengths[slot] = to - from;
        }

        /** Adds the word in a slot at the end of another word, as far as there is room. */
        void addTo(int slot, Word word) {
            int base = slot * width;
            int count = Math.min(lengths[slot], Word.ROOM - word.length);
            for (int i = 0; i < count; i++) {
                word.letters[word.length + i] = letters[base + i];
            }
            word.length += count;
        }

        boolean isEndOf(int slot, Word word) {
            int start = word.length - lengths[slot];
            if (start < 0) {
                return false;
            }
            int base = slot * width;
            for (int i = 0; i < lengths[slot]; i++) {
                if (word.letters[start + i] != letters[base + i]) {
                    return false;
                }
            }
            return true;
        }

        /** The slot of a word among the first ones, as many as count, or -1. */
        int find(Word word, int count) {
            for (int slot = 0; slot < count; slot++) {
                if (lengths[slot] == word.length && isEndOf(slot, word)) {
                    return slot;
                }
            }
            return -1;
        }

        /** Moves the words behind a slot, up to the first ones as many as count, by one slot. */
        void closeGap(int gap, int count) {
            for (int slot = gap; slot + 1 < count; slot++) {
                lengths[slot] = lengths[slot + 1];
                System.arraycopy(letters, (slot + 1) * width, letters, slot * width, width);
            }
        }
    }

    /** The paradigms, the word list and the lexemes: what the history remembers. */
    private static final class State {
        private int paradigmCount;
        private final int[] cellCounts = new int[PARADIGM_LIMIT];
        private final int[] conditionKinds = new int[PARADIGM_LIMIT];
        private final int[] conditionParameters = new int[PARADIGM_LIMIT];
        private final WordTable conditionEnds = new WordTable(PARADIGM_LIMIT, LONGEST_ENDING);
        private final int[] cellKinds = new int[PARADIGM_LIMIT * CELL_LIMIT];
        private final int[] cellParameters = new int[PARADIGM_LIMIT * CELL_LIMIT];
        private final WordTable oldEndings =
                new WordTable(PARADIGM_LIMIT * CELL_LIMIT, LONGEST_ENDING);
        /** The suffixes of the kinds that have one, and the new endings of the kind replace. */
        private final WordTable newEndings =
                new WordTable(PARADIGM_LIMIT * CELL_LIMIT, LONGEST_ENDING);
        private int wordCount;
        private final WordTable words = new WordTable(WORD_LIMIT, LONGEST_WORD);
        private int lexemeCount;
        /** A pair of paradigm and stem each, as Key makes it. */
        private final long[] lexemes = new long[LEXEME_LIMIT];
        /** An empty word stands for no exception. */
        private final WordTable exceptions =
                new WordTable(LEXEME_LIMIT * CELL_LIMIT, LONGEST_WORD);

        void copyFrom(State other) {
            paradigmCount = other.paradigmCount;
            System.arraycopy(other.cellCounts, 0, cellCounts, 0, PARADIGM_LIMIT);
            System.arraycopy(other.conditionKinds, 0, conditionKinds, 0, PARADIGM_LIMIT);
            System.arraycopy(other.conditionParameters, 0, conditionParameters, 0, PARADIGM_LIMIT);
            conditionEnds.copyFrom(other.conditionEnds);
            System.arraycopy(other.cellKinds, 0, cellKinds, 0, cellKinds.length);
            System.arraycopy(other.cellParameters, 0, cellParameters, 0, cellParameters.length);
            oldEndings.copyFrom(other.oldEndings);
            newEndings.copyFrom(other.newEndings);
            wordCount = other.wordCount;
            words.copyFrom(other.words);
            lexemeCount = other.lexemeCount;
            System.arraycopy(other.lexemes, 0, lexemes, 0, LEXEME_LIMIT);
            exceptions.copyFrom(other.exceptions);
        }

        /**
         * Nothing needs to be reset for a new paradigm or lexeme: only a copy of a whole state makes
         * them fewer, and it brings the untouched rows behind them along.
         */
        int newParadigm() {
            paradigmCount++;
            return paradigmCount - 1;
        }

        int newCell(int paradigm, int kind, int parameter) {
            int cell = cellCounts[paradigm];
            cellKinds[cellSlot(paradigm, cell)] = kind;
            cellParameters[cellSlot(paradigm, cell)] = parameter;
            cellCounts[paradigm]++;
            return cell;
        }

        int newLexeme(long pair) {
            lexemes[lexemeCount] = pair;
            lexemeCount++;
            return lexemeCount - 1;
        }

        boolean hasLexeme(long pair) {
            for (int lexeme = 0; lexeme < lexemeCount; lexeme++) {
                if (lexemes[lexeme] == pair) {
                    return true;
                }
            }
            return false;
        }

        boolean hasException(int lexeme, int cell) {
            return exceptions.lengths[cellSlot(lexeme, cell)] > 0;
        }

        void dropException(int lexeme, int cell) {
            exceptions.lengths[cellSlot(lexeme, cell)] = 0;
        }

        /** The number of exceptions of a lexeme in existing cells. */
        int exceptionCount(int lexeme) {
            int cells = cellCounts[Key.paradigm(lexemes[lexeme])];
            int count = 0;
            for (int cell = 0; cell < cells; cell++) {
                if (hasException(lexeme, cell)) {
                    count++;
                }
            }
            return count;
        }

        /** Whether a word is a stem that fulfills the condition of a paradigm. */
        boolean allows(int paradigm, Word word) {
            if (!word.isStem()) {
                return false;
            }
            switch (conditionKinds[paradigm]) {
                case LAST_VOWEL:
                    return word.endsInVowel();
                case LAST_CONSONANT:
                    return !word.endsInVowel();
                case LEAST_LENGTH:
                    return word.length >= conditionParameters[paradigm];
                case GIVEN_END:
                    return conditionEnds.isEndOf(paradigm, word);
                default:
                    return true;
            }
        }

        /** Builds the form of a cell from a stem; answers false if there is none. */
        boolean build(int slot, Word stem, Word form) {
            form.become(stem);
            switch (cellKinds[slot]) {
                case REPLACE:
                    if (!oldEndings.isEndOf(slot, stem)) {
                        return false;
                    }
                    form.dropLast(oldEndings.lengths[slot]);
                    break;
                case DOUBLE:
                    if (stem.length > 0) {
                        form.add(stem.letters[stem.length - 1]);
                    }
                    break;
                case CHANGE:
                    int last = stem.lastVowel();
                    if (last < 0) {
                        return false;
                    }
                    form.letters[last] = VOWELS[cellParameters[slot]];
                    break;
                default:
                    break;
            }
            newEndings.addTo(slot, form);
            return true;
        }
    }

    /** The states before the last calls that were remembered, in a ring. */
    private static final class History {
        private final State[] entries = new State[HISTORY_LIMIT];
        private int next;
        private int count;

        History() {
            for (int i = 0; i < HISTORY_LIMIT; i++) {
                entries[i] = new State();
            }
        }

        void push(State state) {
            entries[next].copyFrom(state);
            next = next + 1 < HISTORY_LIMIT ? next + 1 : 0;
            count = Math.min(count + 1, HISTORY_LIMIT);
        }

        /** The history is not empty. */
        void pop(State state) {
            next = next > 0 ? next - 1 : HISTORY_LIMIT - 1;
            count--;
            state.copyFrom(entries[next]);
        }

        void forget() {
            count = 0;
        }
    }

    /**
     * A hypothesis in one number, whose parts stand so that the smaller number is the hypothesis
     * that comes first; its lower bits, the pair, are the paradigm and the stem alone.
     *
     * <p>Stems of different lengths never meet in the lowest bits, as the length stands above
     * them; so the plain number of the letters gives the alphabetical order.
     */
    private static final class Key {
        private static final int LETTER_BITS = 5;
        private static final int LETTER_MASK = 31;
        private static final int PARADIGM_SHIFT = LETTER_BITS * LONGEST_STEM;
        private static final int PARADIGM_MASK = 7;
        private static final int LENGTH_SHIFT = PARADIGM_SHIFT + 3;
        private static final int LENGTH_MASK = 15;
        private static final int UNATTESTED_SHIFT = LENGTH_SHIFT + 4;
        private static final int COUNT_MASK = 7;
        private static final int EXPLAINED_SHIFT = UNATTESTED_SHIFT + 3;
        private static final long PAIR_MASK = (1L << UNATTESTED_SHIFT) - 1;

        static long of(int paradigm, Word stem, int explained, int unattested) {
            long letters = 0;
            for (int i = 0; i < stem.length; i++) {
                letters = letters << LETTER_BITS | stem.letters[i] - 'a';
            }
            return (long) (CELL_LIMIT - explained) << EXPLAINED_SHIFT
                    | (long) unattested << UNATTESTED_SHIFT
                    | (long) (LONGEST_STEM - stem.length) << LENGTH_SHIFT
                    | (long) paradigm << PARADIGM_SHIFT
                    | letters;
        }

        static long pair(long key) {
            return key & PAIR_MASK;
        }

        static int explained(long key) {
            return CELL_LIMIT - (int) (key >> EXPLAINED_SHIFT & COUNT_MASK);
        }

        static int unattested(long key) {
            return (int) (key >> UNATTESTED_SHIFT & COUNT_MASK);
        }

        static int stemLength(long key) {
            return LONGEST_STEM - (int) (key >> LENGTH_SHIFT & LENGTH_MASK);
        }

        static int paradigm(long key) {
            return (int) (key >> PARADIGM_SHIFT & PARADIGM_MASK);
        }

        static char letterOfStem(long key, int index) {
            int shift = (stemLength(key) - 1 - index) * LETTER_BITS;
            return (char) ('a' + (int) (key >> shift & LETTER_MASK));
        }

        static void unpackStem(long key, Word stem) {
            int length = stemLength(key);
            stem.clear();
            for (int i = 0; i < length; i++) {
                stem.add(letterOfStem(key, i));
            }
        }
    }

    /** The hypotheses in their order, found anew when the paradigms or the words have changed. */
    private static final class Hypotheses {
        /** A cell can build a word from several stems only if they differ in one vowel. */
        private static final int ROOM = PARADIGM_LIMIT * CELL_LIMIT * WORD_LIMIT * VOWEL_COUNT;

        private final long[] keys = new long[ROOM];
        /** The words that the hypothesis with the same index explains, a bit each. */
        private final int[] explainedWords = new int[ROOM];
        private int count;
        private boolean isStale;
        private final Word stem = new Word();
        private final Word form = new Word();
        private final WordTable forms = new WordTable(CELL_LIMIT, LONGEST_FORM);

        void refresh(State state) {
            if (!isStale) {
                return;
            }
            isStale = false;
            count = 0;
            for (int paradigm = 0; paradigm < state.paradigmCount; paradigm++) {
                for (int cell = 0; cell < state.cellCounts[paradigm]; cell++) {
                    for (int word = 0; word < state.wordCount; word++) {
                        offerStems(state, paradigm, cell, word);
                    }
                }
            }
            sort();
            dropRepeated();
        }

        /** Offers every stem from which a cell builds an attested word. */
        private void offerStems(State state, int paradigm, int cell, int word) {
            int slot = cellSlot(paradigm, cell);
            stem.clear();
            state.words.addTo(word, stem);
            if (!state.newEndings.isEndOf(slot, stem)) {
                return;
            }
            stem.dropLast(state.newEndings.lengths[slot]);
            switch (state.cellKinds[slot]) {
                case REPLACE:
                    state.oldEndings.addTo(slot, stem);
                    offer(state, paradigm);
                    break;
                case DOUBLE:
                    if (stem.endsInDouble()) {
                        stem.dropLast(1);
                        offer(state, paradigm);
                    }
                    break;
                case CHANGE:
                    int last = stem.lastVowel();
                    if (last >= 0 && stem.letters[last] == VOWELS[state.cellParameters[slot]]) {
                        for (int vowel = 0; vowel < VOWEL_COUNT; vowel++) {
                            stem.letters[last] = VOWELS[vowel];
                            offer(state, paradigm);
                        }
                    }
                    break;
                default:
                    offer(state, paradigm);
                    break;
            }
        }

        /** Takes the stem in, if it makes a hypothesis with a paradigm. */
        private void offer(State state, int paradigm) {
            if (count >= ROOM || !state.allows(paradigm, stem)) {
                return;
            }
            int formCount = 0;
            int attested = 0;
            for (int cell = 0; cell < state.cellCounts[paradigm]; cell++) {
                if (state.build(cellSlot(paradigm, cell), stem, form)
                        && forms.find(form, formCount) < 0) {
                    forms.put(formCount, form, 0, form.length);
                    formCount++;
                    int word = state.words.find(form, state.wordCount);
                    if (word >= 0) {
                        attested |= 1 << word;
                    }
                }
            }
            int explained = Integer.bitCount(attested);
            if (explained > 0) {
                keys[count] = Key.of(paradigm, stem, explained, formCount - explained);
                explainedWords[count] = attested;
                count++;
            }
        }

        /** Shell's way of sorting needs neither further rows nor recursion. */
        private void sort() {
            for (int gap = count / 2; gap > 0; gap = gap / 2) {
                for (int i = gap; i < count; i++) {
                    long key = keys[i];
                    int attested = explainedWords[i];
                    int place = i;
                    for (; place >= gap && keys[place - gap] > key; place -= gap) {
                        keys[place] = keys[place - gap];
                        explainedWords[place] = explainedWords[place - gap];
                    }
                    keys[place] = key;
                    explainedWords[place] = attested;
                }
            }
        }

        /** A stem is offered once for each word that it explains; once is kept. */
        private void dropRepeated() {
            int kept = 0;
            for (int i = 0; i < count; i++) {
                if (kept == 0 || keys[i] != keys[kept - 1]) {
                    keys[kept] = keys[i];
                    explainedWords[kept] = explainedWords[i];
                    kept++;
                }
            }
            count = kept;
        }
    }
}
