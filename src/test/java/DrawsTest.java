/** Promises 15 and 32 to 34: draws, the seed, images. */
public final class DrawsTest {
    private static final int UNKNOWN = SaddleFit.UNKNOWN, OUTSIDE = SaddleFit.OUTSIDE, NOT = SaddleFit.NOT;

    public static void main(String[] args) {
        seed();
        deeds();
        images();
        Check.end("DrawsTest");
    }

    private static void seed() {
        SaddleFit x = new SaddleFit();
        Check.row("seed", new int[] {x.seed(5), x.seed(2147483647), x.seed(-1), x.seed(-2147483648), x.seed(0), x.seed(0)}, 0, 5, OUTSIDE, OUTSIDE, 2147483647, 0);
        x = Check.shop("f0;b0 20 5;p10 0;");
        x.seed(2147483647);
        x.drift(60);
        long seed = 2147483647L;
        for (int i = 0; i < 180; i++) {
            seed = (seed * 1103515245L + 12345L) % 2147483648L;
        }
        Check.due("180 draws", x.seed(0), (int) seed);
    }

    /** Each deed by draws from each of many seeds, on burdens that nobody, one and two carry. */
    private static void deeds() {
        boolean[] seen = new boolean[4];
        for (int from = 0; from < 120; from++) {
            SaddleFit x = Check.shop("f0;b0 1 0;b0 1 0;b0 1 0;b0 1 0;b0 1 0;p9 0;p9 0;p9 0;");
            int[] first = {-1, 0, 0, 2, 1};
            int[] other = {-1, -1, 1, 1, -1};
            for (int g = 0; g < 5; g++) {
                x.take(g, first[g]);
                x.share(g, other[g]);
            }
            x.seed(from);
            x.drift(1);
            long seed = from;
            int[] draws = {4, 5, 3};
            for (int i = 0; i < 3; i++) {
                seed = (seed * 1103515245L + 12345L) % 2147483648L;
                draws[i] = (int) (seed / 65536 % draws[i]);
            }
            int g = draws[1];
            int p = draws[2];
            if (draws[0] == 0 && first[g] < 0) {
                first[g] = p;
                seen[0] = true;
            } else if (draws[0] == 1 && first[g] >= 0 && other[g] < 0 && first[g] != p) {
                other[g] = p;
                seen[1] = true;
            } else if (draws[0] == 2 && (first[g] == p || other[g] == p)) {
                first[g] = first[g] == p ? other[g] : first[g];
                other[g] = -1;
                seen[2] = true;
            } else {
                seen[3] = true;
            }
            for (int k = 0; k < 5; k++) {
                Check.row("burden " + k + " by draws from " + from, new int[] {x.burden(k, 4), x.burden(k, 5)}, first[k], other[k]);
            }
            Check.due("three draws", x.seed(0), (int) seed);
        }
        for (int deed = 0; deed < 4; deed++) {
            Check.due("deed " + deed + " is drawn", seen[deed] ? 1 : 0, 1);
        }
    }

    private static void images() {
        SaddleFit x = Check.shop("f40;b0 20 5;b1 30 9;p10 0;p20 0;");
        Check.row("refused", new int[] {x.keep(2), x.keep(-1), x.goBack(2), x.goBack(-1), x.goBack(0), x.goBack(1)}, UNKNOWN, UNKNOWN, UNKNOWN, UNKNOWN, NOT, NOT);
        x.take(0, 0);
        x.seed(11);
        Check.due("keep(2) leaves what can be undone", x.keep(2), UNKNOWN);
        Check.due("told(13)", x.told(13), 1);
        Check.due("keep(0)", x.keep(0), 1);
        Check.due("told(13)", x.told(13), 0);
        Check.due("undo()", x.undo(), NOT);
        String first = Check.all(x);
        x.take(1, 1);
        x.share(1, 0);
        x.stuff(1, 8);
        x.weigh(0, 3);
        x.day(13);
        x.seed(12);
        Check.due("keep(1)", x.keep(1), 1);
        String second = Check.all(x);
        x.day(1);
        Check.due("goBack(0)", x.goBack(0), 1);
        Check.same("goBack(0)", first, Check.all(x));
        Check.due("undo()", x.undo(), NOT);
        x.drift(9);
        Check.due("goBack(1)", x.goBack(1), 1);
        Check.same("goBack(1)", second, Check.all(x));
        x.day(9);
        Check.due("goBack(0) again", x.goBack(0), 1);
        Check.same("goBack(0) again", first, Check.all(x));
        x.feel(1, 1, 1);
        x.write(0, 0);
        x.day(1);
        String before = Check.all(x);
        Check.due("goBack(2)", x.goBack(2), UNKNOWN);
        Check.same("goBack(2)", before, Check.all(x));
        x.goBack(0);
        Check.row("what is felt stays", new int[] {x.told(11), x.told(12)}, 1, 1);
        x.weigh(0, 44);
        x.keep(0);
        x.weigh(0, 45);
        x.goBack(0);
        Check.due("kept anew", x.burden(0, 1), 44);
        SaddleFit y = Check.shop("f1;");
        Check.due("an image is its object's own", y.goBack(0), NOT);
    }
}
