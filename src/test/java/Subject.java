import java.lang.reflect.InvocationTargetException;
import java.lang.reflect.Method;
import java.lang.reflect.Modifier;
import java.util.Arrays;
import java.util.HashMap;
import java.util.List;
import java.util.Map;

/** An object under test with the number of its calls: beyond 512 of them its answers are free. */
final class Subject {
    static final int MOST_CALLS = 512;
    private static final Map<String, Method> FACE = face();

    /** A call of the face, so that a run can be made again on another object. */
    record Call(String name, Object... arguments) {
        @Override
        public String toString() {
            return name + Arrays.toString(arguments).replace('[', '(').replace(']', ')');
        }
    }

    private final InflectionGuesser guesser = new InflectionGuesser();
    private int calls;

    private static Map<String, Method> face() {
        Map<String, Method> face = new HashMap<>();
        for (Method method : InflectionGuesser.class.getDeclaredMethods()) {
            if (Modifier.isPublic(method.getModifiers())) {
                face.put(method.getName(), method);
            }
        }
        return face;
    }

    static Subject after(List<Call> run) {
        Subject subject = new Subject();
        for (Call call : run) {
            subject.ask(call);
        }
        return subject;
    }

    static boolean knows(String name) {
        return FACE.containsKey(name);
    }

    static Class<?>[] parameters(String name) {
        return FACE.get(name).getParameterTypes();
    }

    int callsLeft() {
        return MOST_CALLS - calls;
    }

    String ask(String name, Object... arguments) {
        return ask(new Call(name, arguments));
    }

    int number(String name, Object... arguments) {
        return Integer.parseInt(ask(name, arguments));
    }

    /** The answer as a text, or the exception's name behind "throws.". */
    String ask(Call call) {
        calls++;
        if (calls > MOST_CALLS) {
            throw new IllegalArgumentException("the test makes more than 512 calls on one object");
        }
        try {
            return String.valueOf(FACE.get(call.name).invoke(guesser, call.arguments));
        } catch (InvocationTargetException e) {
            return "throws." + e.getCause().getClass().getSimpleName();
        } catch (IllegalAccessException e) {
            throw new IllegalArgumentException(e);
        }
    }

    void type(String word) {
        ask("clearInput");
        for (char letter : word.toCharArray()) {
            ask("append", letter);
        }
    }

    String input() {
        StringBuilder letters = new StringBuilder();
        for (int i = 0; i < 15; i++) {
            String letter = ask("inputLetter", i);
            if (letter.startsWith("throws")) {
                break;
            }
            letters.append(letter);
        }
        return letters.toString();
    }

    String word(int word) {
        StringBuilder letters = new StringBuilder();
        int length = number("wordLength", word);
        for (int i = 0; i < length; i++) {
            letters.append(ask("wordLetter", word, i));
        }
        return letters.toString();
    }

    /** A hypothesis as its paradigm, stem, explained words and missing forms. */
    String hypothesis(int hypothesis) {
        StringBuilder text = new StringBuilder(ask("hypothesis", hypothesis, 0));
        int length = number("hypothesis", hypothesis, 3);
        for (int i = 0; i < length; i++) {
            text.append(ask("stemLetter", hypothesis, i));
        }
        return text.append(ask("hypothesis", hypothesis, 1)).append(ask("hypothesis", hypothesis, 2)).toString();
    }

    /** A lexeme as its paradigm and stem. */
    String lexeme(int lexeme) {
        String paradigm = ask("lexeme", lexeme, 0);
        ask("takeStem", lexeme);
        return paradigm + input();
    }

    String form(int lexeme, int cell) {
        ask("clearInput");
        String answer = ask("takeForm", lexeme, cell);
        return answer.startsWith("throws") ? answer : input();
    }
}
