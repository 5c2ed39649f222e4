import java.lang.reflect.InvocationTargetException;
import java.lang.reflect.Method;
import java.lang.reflect.Modifier;
import java.util.ArrayList;
import java.util.Arrays;
import java.util.HashMap;
import java.util.List;
import java.util.Map;
import java.util.Random;

/** Random runs of 512 calls, each compared call by call with the plain reference. */
public final class RandomRunTests {
    private static final int RUNS = 400;
    private static final int CALLS = 512;
    private static final int SHOWN = 3;
    private static final String[] ALPHABETS = {
        "ab", "abe", "aeiouy", "abcdefghijklmnopqrstuvwxyz", "asz", "est"
    };
    /** What each argument is: p paradigm, c cell, k kind, v parameter, w word, h hypothesis, l lexeme,
     *  i index of a letter, a what, x letter. */
    private static final String[] ROLES = {
        "append x", "clearInput", "inputLetter i", "addParadigm", "paradigmCount", "addCell pkv",
        "removeLastCell p", "cellCount p", "cell pca", "setCondition pkv", "fulfills p", "inflect pc",
        "addWord", "removeWord w", "wordCount", "wordLength w", "wordLetter wi", "longestEnding w",
        "endings w", "hypothesisCount", "hypothesis ha", "stemLetter hi", "explains hw",
        "explanations w", "attestedShare h", "accept h", "cover", "lexemeCount", "lexeme la",
        "takeStem l", "setException lc", "clearException lc", "takeForm lc", "hasForm lw", "missing l",
        "missingCell lc", "uncovered", "lexemesOf w", "undo", "save", "restore"
    };
    private static final Map<String, Method> FACE = methods(InflectionGuesser.class);
    private static final Map<String, Method> WANTED = methods(ReferenceGuesser.class);
    private static final List<String> LOSERS = List.of("undo", "restore", "removeWord", "removeLastCell");

    private final Random random;
    private final InflectionGuesser guesser = new InflectionGuesser();
    private final ReferenceGuesser reference = new ReferenceGuesser();
    private final List<String> run = new ArrayList<>();
    private final String alphabet;
    private final boolean grows;
    private boolean same = true;

    private RandomRunTests(int seed) {
        random = new Random(seed);
        alphabet = ALPHABETS[seed % ALPHABETS.length];
        grows = seed % 5 < 3;
    }

    private static Map<String, Method> methods(Class<?> of) {
        Map<String, Method> methods = new HashMap<>();
        for (Method method : of.getDeclaredMethods()) {
            if (!Modifier.isPrivate(method.getModifiers())) {
                methods.put(method.getName(), method);
            }
        }
        return methods;
    }

    public static void main(String[] args) {
        Checks.due("the number of methods", ROLES.length, FACE.size());
        for (int seed = 1; seed <= RUNS && Checks.wrongCount() < SHOWN; seed++) {
            Checks.part("seed " + seed);
            new RandomRunTests(seed).compare();
        }
        Checks.end();
    }

    private void compare() {
        while (run.size() < CALLS && same) {
            if (random.nextInt(3) == 0) {
                makeSomething();
            } else {
                call(ROLES[random.nextInt(ROLES.length)]);
            }
        }
        if (!same) {
            System.out.println(String.join("\n", run));
        }
    }

    /** Without calls in a fitting order, random runs would hardly ever have a hypothesis. */
    private void makeSomething() {
        switch (random.nextInt(8)) {
            case 0:
                call(reference.paradigmCount() > random.nextInt(6) ? "paradigmCount" : "addParadigm");
                break;
            case 1:
            case 2:
                type(random.nextInt(4));
                call("addCell pkv");
                break;
            case 3:
                type(2 + random.nextInt(random.nextInt(6) == 0 ? 13 : 4));
                call("addWord");
                break;
            case 4:
                type(2 + random.nextInt(3));
                call("inflect pc");
                call("addWord");
                break;
            case 5:
                call("takeForm lc");
                call("addWord");
                break;
            case 6:
                type(random.nextInt(5));
                call("setException lc");
                break;
            default:
                type(1 + random.nextInt(2));
                call("setCondition pkv");
                break;
        }
    }

    private void type(int letters) {
        call("clearInput");
        for (int i = 0; i < letters; i++) {
            call("append x");
        }
    }

    private void call(String roles) {
        String name = roles.split(" ")[0];
        // A run that grows keeps most of what it has made, so that it comes to the limits.
        if (!same || grows && LOSERS.contains(name) && random.nextInt(8) != 0) {
            return;
        }
        Object[] arguments = new Object[FACE.get(name).getParameterCount()];
        for (int i = 0; i < arguments.length; i++) {
            char role = roles.charAt(name.length() + 1 + i);
            arguments[i] = role == 'x' ? letter() : role == 'v' ? (Object) parameter(name, (int) arguments[1])
                    : (Object) number(role);
        }
        String got = answer(FACE.get(name), guesser, arguments);
        String want = answer(WANTED.get(name), reference, arguments);
        run.add(name + Arrays.toString(arguments) + " " + got);
        Checks.due(name + Arrays.toString(arguments), got, want);
        same = got.equals(want);
    }

    private static String answer(Method method, Object object, Object[] arguments) {
        try {
            return String.valueOf(method.invoke(object, arguments));
        } catch (InvocationTargetException e) {
            return "throws." + e.getCause().getClass().getSimpleName();
        } catch (IllegalAccessException e) {
            return "not open: " + method;
        }
    }

    private char letter() {
        return random.nextInt(100) == 0
                ? (char) random.nextInt(1 << random.nextInt(17))
                : alphabet.charAt(random.nextInt(alphabet.length()));
    }

    private int parameter(String name, int kind) {
        if (random.nextInt(20) == 0) {
            return number('v');
        }
        if (name.equals("addCell")) {
            return kind == 1 ? random.nextInt(3) : kind == 3 ? random.nextInt(5) : 0;
        }
        return kind == 3 ? 2 + random.nextInt(4) : 0;
    }

    private int number(char role) {
        int wild = random.nextInt(60);
        if (wild < 3) {
            return wild == 0 ? random.nextInt() : wild == 1 ? -1 : random.nextInt(100);
        }
        int limit = limit(role) + (random.nextInt(8) == 0 ? 1 : 0);
        return random.nextInt(Math.max(1, limit));
    }

    private int limit(char role) {
        switch (role) {
            case 'p':
                return reference.paradigmCount();
            case 'c':
                return 1 + random.nextInt(6);
            case 'w':
                return reference.wordCount();
            case 'h':
                return reference.hypothesisCount();
            case 'l':
                return reference.lexemeCount();
            case 'i':
                return 1 + random.nextInt(14);
            default:
                return 4;
        }
    }
}
