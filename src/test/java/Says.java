import java.lang.reflect.InvocationTargetException;
import java.lang.reflect.Method;
import java.util.HashMap;
import java.util.Map;
import java.util.regex.Matcher;
import java.util.regex.Pattern;

/**
 * Calls held against a sentence of the document. A script is a row of calls, "take(0, 1) = 5  share(0, 1) = NOT  day(3)":
 * one with '=' has the answer that is due, one without must not be refused, and one that is to be refused must change nothing.
 */
final class Says {
    private static final Pattern CALL = Pattern.compile("\\s*(\\w+)\\(([^)]*)\\)(?:\\s*=\\s*(-?\\w+))?\\s*");
    private static final Map<String, Method> FACE = face();
    private static String sentence;
    private static int asked = 1;

    private Says() {
    }

    /** What is asked from here on would fail if this sentence were broken; SentencesTest looks for it in the document. */
    static void says(String words) {
        nothingUntested();
        sentence = words;
        asked = 0;
    }

    static void nothingUntested() {
        if (asked == 0) {
            Check.fail("nothing is asked of: " + sentence);
        }
    }

    static SaddleFit fresh(String script) {
        return ask(new SaddleFit(), script);
    }

    static SaddleFit shop(String text, String script) {
        return ask(Check.shop(text), script);
    }

    static SaddleFit ask(SaddleFit x, String script) {
        Matcher m = CALL.matcher(script);
        int at = 0;
        while (at < script.length()) {
            if (!m.find() || m.start() != at) {
                Check.fail("no call can be read in [" + script + "] from " + at + " on");
                return x;
            }
            at = m.end();
            askOne(x, m.group(1), numbers(m.group(2)), m.group(3));
        }
        return x;
    }

    static SaddleFit times(int n, SaddleFit x, String script) {
        for (int i = 0; i < n; i++) {
            ask(x, script);
        }
        return x;
    }

    /** For what no script can tell. */
    static void so(String what, boolean holds) {
        asked++;
        if (!holds) {
            Check.fail(what + " is not so; the document: " + sentence);
        }
    }

    /** Of one call, whatever it is. */
    static int answer(SaddleFit x, String script) {
        Matcher m = CALL.matcher(script);
        if (!m.matches()) {
            Check.fail("no call can be read in [" + script + "]");
            return 0;
        }
        return call(x, m.group(1), numbers(m.group(2)));
    }

    private static int call(SaddleFit x, String name, Integer... with) {
        Method m = FACE.get(name + with.length);
        if (m == null) {
            Check.fail("there is no call " + name + " with " + with.length + " numbers");
            return 0;
        }
        try {
            return (Integer) m.invoke(x, (Object[]) with);
        } catch (IllegalAccessException | InvocationTargetException e) {
            throw new IllegalStateException(name + java.util.Arrays.toString(with), e);
        }
    }

    private static void askOne(SaddleFit x, String name, Integer[] with, String want) {
        boolean refusal = want != null && isRefusal(number(want));
        String before = refusal ? Check.all(x) : "";
        int got = call(x, name, with);
        String told = name + java.util.Arrays.toString(with) + " answered " + got;
        if (want == null) {
            if (isRefusal(got)) {
                Check.fail(told + ", it was to be done; the document: " + sentence);
            }
            return;
        }
        asked++;
        if (got != number(want)) {
            Check.fail(told + ", due is " + want + "; the document: " + sentence);
        }
        if (refusal && !before.equals(Check.all(x))) {
            Check.fail(told + " and changed [" + before + "] to [" + Check.all(x) + "]");
        }
    }

    private static boolean isRefusal(int answer) {
        return answer >= SaddleFit.FULL && answer <= SaddleFit.UNKNOWN;
    }

    private static Integer[] numbers(String list) {
        String[] parts = list.isBlank() ? new String[0] : list.split(",");
        Integer[] all = new Integer[parts.length];
        for (int i = 0; i < parts.length; i++) {
            all[i] = number(parts[i].trim());
        }
        return all;
    }

    static int number(String word) {
        switch (word) {
            case "NONE": return -1;
            case "UNKNOWN": return -1000000001;
            case "OUTSIDE": return -1000000002;
            case "NOT": return -1000000003;
            case "FULL": return -1000000004;
            case "MIN": return Integer.MIN_VALUE;
            case "MAX": return Integer.MAX_VALUE;
            default: return Integer.parseInt(word);
        }
    }

    private static Map<String, Method> face() {
        Map<String, Method> all = new HashMap<>();
        for (Method m : SaddleFit.class.getMethods()) {
            if (m.getDeclaringClass() == SaddleFit.class) {
                all.put(m.getName() + m.getParameterCount(), m);
            }
        }
        return all;
    }
}
