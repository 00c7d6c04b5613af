import java.lang.reflect.Method;
import java.util.ArrayList;
import java.util.Comparator;
import java.util.List;
import java.util.Random;

/** Runs of calls by fixed seeds: SaddleFit answers as SlowModel does, whatever is asked. */
public final class ModelTest {
    private static final int RUNS = 1500, CALLS = 400;
    private static final int[] WILD = {-2147483648, 2147483647, -1, 0, 1, 2, 5, 6, 7, 15, 30, 31, -30, -31, 60, 61, 99, 100, 200, 201, 255, 256, 9999, 10000};

    public static void main(String[] args) throws ReflectiveOperationException {
        List<Method> calls = new ArrayList<>();
        for (Method m : SaddleFit.class.getDeclaredMethods()) {
            if (java.lang.reflect.Modifier.isPublic(m.getModifiers())) {
                calls.add(m);
            }
        }
        calls.sort(Comparator.comparing(Method::getName));
        Check.due("public methods", calls.size(), 34 - 1);
        for (int run = 0; run < RUNS; run++) {
            oneRun(run, calls);
        }
        Check.end("ModelTest");
    }

    private static void oneRun(int run, List<Method> calls) throws ReflectiveOperationException {
        Random random = new Random(run);
        SaddleFit x = new SaddleFit();
        SlowModel y = new SlowModel();
        boolean faulty = run % 5 == 0;
        // What one feels is mostly so of this burden: else no pair would be left.
        int weight = 1 + random.nextInt(60);
        int edge = random.nextInt(21);
        int left = CALLS - tell(x, y, text(random, faulty));
        while (left-- > 0) {
            Method m = calls.get(random.nextInt(calls.size()));
            String name = m.getName();
            // A new shop, and days by the dozen, would leave little of what was done.
            if ((name.equals("shop") || name.equals("feed")) && random.nextInt(20) != 0) {
                continue;
            }
            if (dear(name) && random.nextInt(4) != 0) {
                name = random.nextBoolean() ? "take" : "share";
            }
            Integer[] with = arguments(name, random);
            if (name.equals("feel") && random.nextInt(8) != 0) {
                with[2] = Math.max(0, weight - with[0]) + Math.max(0, edge - with[1]);
            }
            if (!askBoth(run, x, y, name, with)) {
                return;
            }
            if (random.nextInt(150) == 0) {
                left -= tell(x, y, text(random, true));
            }
        }
        if (!Check.all(x).equals(allOf(y))) {
            Check.fail("run " + run + ": it ends as [" + Check.all(x) + "], due is [" + allOf(y) + "]");
        }
    }

    private static boolean dear(String name) {
        return name.equals("fit") || name.equals("byTwo") || name.equals("order") || name.equals("tryNext") || name.equals("keep") || name.equals("goBack");
    }

    private static boolean askBoth(int run, SaddleFit x, SlowModel y, String name, Integer[] with) throws ReflectiveOperationException {
        Class<?>[] types = new Class<?>[with.length];
        java.util.Arrays.fill(types, int.class);
        Object want = SlowModel.class.getDeclaredMethod(name, types).invoke(y, (Object[]) with);
        Object got = SaddleFit.class.getDeclaredMethod(name, types).invoke(x, (Object[]) with);
        if (!want.equals(got)) {
            Check.fail("run " + run + ": " + name + java.util.Arrays.toString(with) + " answered " + got + ", due is " + want);
            return false;
        }
        return true;
    }

    private static Integer[] arguments(String name, Random random) {
        String of;
        switch (name) {
            case "feed": of = "z"; break;
            case "told": of = "o"; break;
            case "burden": of = "gs"; break;
            case "back": of = "ph"; break;
            case "day": case "drift": of = "d"; break;
            case "take": case "share": case "down": of = "gp"; break;
            case "hand": case "shareOf": of = "gpp"; break;
            case "stuff": of = "gn"; break;
            case "weigh": of = "gw"; break;
            case "sore": of = "pm"; break;
            case "when": of = "p"; break;
            case "worst": of = "wi"; break;
            case "fit": of = "e"; break;
            case "byTwo": of = "gi"; break;
            case "order": of = "pi"; break;
            case "could": of = "g"; break;
            case "fair": of = "wq"; break;
            case "feel": of = "wtt"; break;
            case "carries": of = "i"; break;
            case "write": of = "pv"; break;
            case "seed": of = "v"; break;
            case "keep": case "goBack": of = "i"; break;
            default: of = "";
        }
        Integer[] all = new Integer[of.length()];
        for (int i = 0; i < all.length; i++) {
            all[i] = random.nextInt(25) == 0 ? WILD[random.nextInt(WILD.length)] : argument(of.charAt(i), random);
        }
        return all;
    }

    private static int argument(char of, Random random) {
        switch (of) {
            case 'z': return "fbp0123456789; ;".charAt(random.nextInt(16));
            case 'o': return random.nextInt(15);
            case 'g': return random.nextInt(6);
            case 'e': return random.nextInt(7) - 1;
            case 'p': return random.nextInt(5);
            case 's': return random.nextInt(6);
            case 'h': return random.nextInt(8);
            case 'd': return random.nextInt(8) == 0 ? random.nextInt(60) + 1 : random.nextInt(4) + 1;
            case 'n': return random.nextInt(31) - 12;
            case 'w': return random.nextInt(60) + 1;
            case 'm': return random.nextInt(201);
            case 'i': return random.nextInt(3);
            case 'q': return random.nextInt(101);
            case 't': return random.nextInt(25);
            case 'v': return random.nextBoolean() ? random.nextInt(30) : random.nextInt(10000);
            default: return 0;
        }
    }

    /** How many calls it took. */
    private static int tell(SaddleFit x, SlowModel y, String text) {
        for (int i = 0; i < text.length(); i++) {
            Check.due("feed(" + (int) text.charAt(i) + ")", x.feed(text.charAt(i)), y.feed(text.charAt(i)));
        }
        Check.due("shop() of " + text, x.shop(), y.shop());
        Check.due("fault() of " + text, x.fault(), y.fault());
        return text.length() + 2;
    }

    private static String text(Random random, boolean faulty) {
        StringBuilder text = new StringBuilder("f").append(random.nextInt(100)).append(';');
        int burdens = random.nextInt(8) == 0 ? random.nextInt(7) : 2 + random.nextInt(5);
        int backs = random.nextInt(8) == 0 ? random.nextInt(6) : 2 + random.nextInt(4);
        boolean light = random.nextBoolean();
        while (burdens + backs > 0) {
            if (random.nextInt(burdens + backs) < burdens) {
                burdens--;
                text.append('b').append(random.nextInt(5)).append(' ').append(random.nextInt(light ? 15 : 60) + 1).append(' ').append(random.nextInt(light ? 6 : 21)).append(';');
            } else {
                backs--;
                text.append('p').append(random.nextInt(99) + 1).append(' ').append(random.nextInt(10)).append(';');
            }
        }
        for (int i = 0; faulty && i < 1 + random.nextInt(3); i++) {
            int at = random.nextInt(text.length());
            char letter = random.nextInt(9) == 0 ? (char) random.nextInt(256) : "fbp0123456789;   ".charAt(random.nextInt(17));
            switch (random.nextInt(4)) {
                case 0: text.setCharAt(at, letter); break;
                case 1: text.insert(at, letter); break;
                case 2: text.insert(at, ' '); break;
                default: text.deleteCharAt(at); break;
            }
        }
        return text.toString();
    }

    /** As Check.all tells a SaddleFit. */
    private static String allOf(SlowModel y) {
        StringBuilder all = new StringBuilder("letters " + y.told(2) + ", fault " + y.fault() + ", ");
        for (int what = 0; what <= 14; what++) {
            all.append(what == 2 ? 0 : y.told(what)).append(' ');
        }
        for (int g = 0; g < y.told(0); g++) {
            for (int what = 0; what <= 5; what++) {
                all.append(y.burden(g, what)).append(' ');
            }
        }
        for (int p = 0; p < y.told(1); p++) {
            for (int what = 0; what <= 7; what++) {
                all.append(y.back(p, what)).append(' ');
            }
        }
        int seed = y.seed(0);
        y.seed(seed);
        return all.append(seed).append(' ').append(y.carries(0)).append(' ').append(y.judge()).toString();
    }
}
