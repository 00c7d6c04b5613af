/** Counts the calls whose answer is not the one that is due. */
final class Check {
    private static int wrong;

    private Check() {
    }

    static void due(String call, int got, int want) {
        if (got != want) {
            wrong++;
            System.out.println(call + " answered " + got + ", due is " + want);
        }
    }

    /** Many calls in one row: the wants one by one. */
    static void row(String calls, int[] got, int... want) {
        if (!java.util.Arrays.equals(got, want)) {
            wrong++;
            System.out.println(calls + " answered " + java.util.Arrays.toString(got) + ", due is " + java.util.Arrays.toString(want));
        }
    }

    static void fail(String what) {
        wrong++;
        System.out.println(what);
    }

    static SaddleFit feed(SaddleFit x, String text) {
        for (int i = 0; i < text.length(); i++) {
            x.feed(text.charAt(i));
        }
        return x;
    }

    static SaddleFit shop(String text) {
        SaddleFit x = feed(new SaddleFit(), text);
        if (x.shop() < 0) {
            fail("the text is faulty: " + text);
        }
        return x;
    }

    /** All that can be told, to see that a refused call changed nothing. */
    static String all(SaddleFit x) {
        return "letters " + x.told(2) + ", fault " + x.fault() + ", " + held(x);
    }

    /** All but the text and its fault. */
    static String held(SaddleFit x) {
        StringBuilder all = new StringBuilder();
        for (int what = 0; what <= 14; what++) {
            all.append(what == 2 ? 0 : x.told(what)).append(' ');
        }
        for (int g = 0; g < x.told(0); g++) {
            for (int what = 0; what <= 5; what++) {
                all.append(x.burden(g, what)).append(' ');
            }
        }
        for (int p = 0; p < x.told(1); p++) {
            for (int what = 0; what <= 7; what++) {
                all.append(x.back(p, what)).append(' ');
            }
        }
        int seed = x.seed(0);
        x.seed(seed);
        return all.append(seed).append(' ').append(x.carries(0)).append(' ').append(x.judge()).toString();
    }

    static void same(String call, String before, String after) {
        if (!before.equals(after)) {
            fail(call + " changed [" + before + "] to [" + after + "]");
        }
    }

    static void end(String test) {
        System.out.println(wrong == 0 ? test + ": all answers are as due" : test + ": " + wrong + " answers are not as due");
        if (wrong != 0) {
            System.exit(1);
        }
    }
}
