/** Promises 8 to 16: what is done. */
public final class DeedsTest {
    private static final int UNKNOWN = SaddleFit.UNKNOWN, OUTSIDE = SaddleFit.OUTSIDE, NOT = SaddleFit.NOT, FULL = SaddleFit.FULL;

    public static void main(String[] args) {
        day();
        daysAbove();
        take();
        share();
        down();
        hand();
        stuff();
        weigh();
        drift();
        undo();
        undoOfEach();
        Check.end("DeedsTest");
    }

    private static void day() {
        SaddleFit none = new SaddleFit();
        Check.due("day(0) without a shop", none.day(0), OUTSIDE);
        Check.due("day(60) without a shop", none.day(60), NOT);
        SaddleFit x = Check.shop("f0;b0 10 5;b3 1 0;b4 1 10;p1 0;p9 0;");
        Check.due("day(0)", x.day(0), OUTSIDE);
        Check.due("day(61)", x.day(61), OUTSIDE);
        Check.due("day(-1)", x.day(-1), OUTSIDE);
        Check.due("told(13)", x.told(13), 0);
        x.take(0, 0);
        Check.due("day(1)", x.day(1), 0);
        Check.row("sore", new int[] {x.back(0, 2), x.back(1, 2), x.told(3)}, 14, 0, 1);
        Check.due("day(1)", x.day(1), 1);
        Check.due("sore", x.back(0, 2), 28);
        x.down(0, 0);
        Check.due("rest", x.day(2), 1);
        Check.due("sore of 22", x.back(0, 2), 22);
        x.take(1, 0);
        Check.due("one that carries does not rest", x.day(1), 1);
        Check.due("sore of 22", x.back(0, 2), 22);
        Check.due("joy shifts on day 5", x.day(1), 1);
        Check.due("sore of 24", x.back(0, 2), 24);
        x.down(1, 0);
        x.take(2, 1);
        Check.due("galled no more", x.day(2), 2);
        Check.row("sore", new int[] {x.back(0, 2), x.back(1, 2), x.told(3)}, 18, 20, 8);
        Check.due("sore of 20 is galled", x.told(5), 2);
        Check.due("rest to 0", x.day(7), 2);
        Check.due("0 at least", x.back(0, 2), 0);
        Check.due("untold ones rub in August alone", x.back(1, 2), 20);
        x = Check.shop("f0;b0 60 20;b0 60 20;b0 60 20;p1 0;");
        for (int g = 0; g < 3; g++) {
            x.take(g, 0);
        }
        x.day(41);
        Check.due("41 days of 239", x.back(0, 2), 9799);
        x.day(1);
        Check.due("9999 at most", x.back(0, 2), 9999);
        x.day(1);
        Check.due("9999 at most", x.back(0, 2), 9999);
    }

    private static void daysAbove() {
        SaddleFit x = Check.shop("f0;b3 1 0;p1 0;");
        for (int i = 0; i < 150; i++) {
            x.day(60);
        }
        Check.due("9000 days", x.told(3), 9000);
        x.keep(0);
        Check.due("day(1) of 9000", x.day(1), 0);
        String before = Check.all(x);
        Check.due("day(1) of 9001", x.day(1), FULL);
        Check.due("drift(1) of 9001", x.drift(1), FULL);
        Check.due("day(61) of 9001", x.day(61), OUTSIDE);
        Check.same("FULL", before, Check.all(x));
        x.take(0, 0);
        Check.due("tried all the same", x.sore(0, 200), 200);
        x.goBack(0);
        Check.due("day(60) of 9000", x.day(60), 0);
        Check.due("told(3)", x.told(3), 9060);
        Check.due("day(1) of 9060", x.day(1), FULL);
        x.undo();
        Check.due("drift(60) of 9000", x.drift(60), x.told(5));
        Check.due("drift(1) of 9060", x.drift(1), FULL);
    }

    private static void take() {
        SaddleFit x = Check.shop("f0;b2 10 3;b0 10 0;p5 4;p10 0;");
        Check.due("take(0, 0)", x.take(0, 0), 5 + 3 + 4);
        Check.row("burden 0", new int[] {x.burden(0, 4), x.burden(0, 5), x.back(0, 4)}, 0, -1, 1);
        Check.due("take(1, 1)", x.take(1, 1), 0);
        String before = Check.all(x);
        Check.due("take(0, 1)", x.take(0, 1), NOT);
        Check.due("take(0, 0)", x.take(0, 0), NOT);
        Check.due("take(2, 0)", x.take(2, 0), UNKNOWN);
        Check.due("take(0, 2)", x.take(0, 2), UNKNOWN);
        Check.due("take(0, -1)", x.take(0, -1), UNKNOWN);
        Check.due("take(-1, 0)", x.take(-1, 0), UNKNOWN);
        Check.same("take refused", before, Check.all(x));
    }

    private static void share() {
        SaddleFit x = Check.shop("f0;b1 31 5;b0 10 0;p10 4;p10 0;p10 0;");
        Check.due("share of what nobody carries", x.share(0, 0), NOT);
        x.take(0, 2);
        Check.due("share(0, 2) with itself", x.share(0, 2), NOT);
        Check.due("share(0, 0)", x.share(0, 0), 5 + 2);
        Check.row("shared", new int[] {x.burden(0, 4), x.burden(0, 5), x.back(2, 5), x.back(0, 5), x.back(2, 3), x.told(8)}, 2, 0, 16, 15, 8, 1);
        String before = Check.all(x);
        Check.due("share(0, 1) of two", x.share(0, 1), NOT);
        Check.due("share(0, 0) again", x.share(0, 0), NOT);
        Check.due("share(2, 0)", x.share(2, 0), UNKNOWN);
        Check.due("share(0, 3)", x.share(0, 3), UNKNOWN);
        Check.due("take(0, 1) of two", x.take(0, 1), NOT);
        Check.same("share refused", before, Check.all(x));
    }

    private static void down() {
        SaddleFit x = Check.shop("f0;b0 31 5;b0 10 1;p10 4;p10 0;p10 0;");
        x.take(0, 0);
        x.take(1, 0);
        x.share(0, 1);
        String before = Check.all(x);
        Check.due("down(0, 2)", x.down(0, 2), NOT);
        Check.due("down(1, 1)", x.down(1, 1), NOT);
        Check.due("down(2, 0)", x.down(2, 0), UNKNOWN);
        Check.due("down(0, -1)", x.down(0, -1), UNKNOWN);
        Check.same("down refused", before, Check.all(x));
        Check.due("down(0, 0)", x.down(0, 0), 1);
        Check.row("the other alone", new int[] {x.burden(0, 4), x.burden(0, 5), x.back(1, 3), x.told(8)}, 1, -1, 26, 0);
        x.share(0, 2);
        Check.due("down(0, 2)", x.down(0, 2), 0);
        Check.row("the first alone", new int[] {x.burden(0, 4), x.burden(0, 5), x.back(1, 5)}, 1, -1, 31);
        Check.due("down(0, 1)", x.down(0, 1), 0);
        Check.row("nobody", new int[] {x.burden(0, 4), x.burden(0, 5), x.told(7)}, -1, -1, 1);
        Check.due("down(0, 1) again", x.down(0, 1), NOT);
    }

    private static void hand() {
        SaddleFit x = Check.shop("f0;b2 31 5;p10 4;p10 0;p10 9;");
        Check.due("hand(0, 0, 1) of what it does not carry", x.hand(0, 0, 1), NOT);
        x.take(0, 0);
        Check.due("hand(0, 0, 2)", x.hand(0, 0, 2), 21 + 14);
        Check.row("burden 0", new int[] {x.burden(0, 4), x.burden(0, 5)}, 2, -1);
        x.share(0, 0);
        String before = Check.all(x);
        Check.due("hand(0, 2, 0) to one that carries it", x.hand(0, 2, 0), NOT);
        Check.due("hand(0, 1, 2)", x.hand(0, 1, 2), NOT);
        Check.due("hand(0, 2, 2)", x.hand(0, 2, 2), UNKNOWN);
        Check.due("hand(0, 1, 1)", x.hand(0, 1, 1), UNKNOWN);
        Check.due("hand(1, 2, 1)", x.hand(1, 2, 1), UNKNOWN);
        Check.due("hand(0, 3, 1)", x.hand(0, 3, 1), UNKNOWN);
        Check.due("hand(0, 2, -1)", x.hand(0, 2, -1), UNKNOWN);
        Check.same("hand refused", before, Check.all(x));
        Check.due("hand(0, 2, 1) by the first", x.hand(0, 2, 1), 6 + 5);
        Check.row("burden 0", new int[] {x.burden(0, 4), x.burden(0, 5), x.back(1, 5)}, 1, 0, 16);
        Check.due("hand(0, 0, 2) by the other", x.hand(0, 0, 2), 5 + 14);
        Check.row("burden 0", new int[] {x.burden(0, 4), x.burden(0, 5), x.back(2, 5)}, 1, 2, 15);
    }

    private static void stuff() {
        SaddleFit x = Check.shop("f35;b0 1 20;b0 1 5;p1 0;");
        Check.due("stuff(0, 30)", x.stuff(0, 30), 30);
        Check.due("told(4)", x.told(4), 5);
        String before = Check.all(x);
        Check.due("stuff(0, 1) above 30", x.stuff(0, 1), NOT);
        Check.due("stuff(1, 6) of 5", x.stuff(1, 6), NOT);
        Check.due("stuff(1, -1) below 0", x.stuff(1, -1), NOT);
        Check.due("stuff(1, 31)", x.stuff(1, 31), OUTSIDE);
        Check.due("stuff(0, -31)", x.stuff(0, -31), OUTSIDE);
        Check.due("stuff(2, 31)", x.stuff(2, 31), UNKNOWN);
        Check.due("stuff(-1, 0)", x.stuff(-1, 0), UNKNOWN);
        Check.same("stuff refused", before, Check.all(x));
        Check.due("stuff(1, 5)", x.stuff(1, 5), 5);
        Check.due("told(4)", x.told(4), 0);
        Check.due("stuff(1, 0)", x.stuff(1, 0), 5);
        Check.due("told(13)", x.told(13), 3);
        Check.due("stuff(0, -30)", x.stuff(0, -30), 0);
        Check.row("back in stock", new int[] {x.told(4), x.burden(0, 3)}, 30, 0);
        x.take(0, 0);
        x.stuff(0, 19);
        Check.due("one of edge is left", x.back(0, 3), 1);
        x.stuff(0, 11);
        Check.due("not below 0", x.back(0, 3), 0);
    }

    private static void weigh() {
        SaddleFit x = Check.shop("f0;b0 20 0;p10 0;");
        x.take(0, 0);
        Check.due("weigh(0, 60)", x.weigh(0, 60), 20);
        Check.due("galling", x.back(0, 3), 50);
        Check.due("weigh(0, 1)", x.weigh(0, 1), 60);
        String before = Check.all(x);
        Check.due("weigh(0, 0)", x.weigh(0, 0), OUTSIDE);
        Check.due("weigh(0, 61)", x.weigh(0, 61), OUTSIDE);
        Check.due("weigh(1, 61)", x.weigh(1, 61), UNKNOWN);
        Check.same("weigh refused", before, Check.all(x));
        Check.due("burden(0, 1)", x.burden(0, 1), 1);
    }

    private static void drift() {
        SaddleFit none = new SaddleFit();
        Check.due("drift(61) without a shop", none.drift(61), OUTSIDE);
        Check.due("drift(1) without a shop", none.drift(1), NOT);
        SaddleFit x = Check.shop("f0;b0 20 0;");
        Check.due("drift(0)", x.drift(0), OUTSIDE);
        Check.due("drift(-5)", x.drift(-5), OUTSIDE);
        Check.due("drift(60) without backs", x.drift(60), 0);
        Check.row("no draw", new int[] {x.told(3), x.seed(0)}, 60, 0);
        x = Check.shop("f0;p5 0;");
        x.drift(60);
        Check.row("no draw without burdens", new int[] {x.told(3), x.seed(0)}, 60, 0);
        x = Check.shop("f0;b0 60 20;b1 30 9;p5 0;p9 1;");
        x.drift(1);
        // Three draws from 0 on: 12345, 1406932606, 654583775: 0 of 4, 0 of 2, 0 of 2.
        Check.row("TAKEN UP, then a day", new int[] {x.burden(0, 4), x.back(0, 2), x.told(3), x.seed(0)}, 0, 75, 1, 654583775);
    }

    private static void undo() {
        SaddleFit x = Check.shop("f0;b0 60 20;p5 0;");
        Check.due("undo() of nothing", x.undo(), NOT);
        for (int i = 1; i <= 20; i++) {
            x.weigh(0, i);
            Check.due("told(13)", x.told(13), Math.min(i, 16));
        }
        Check.due("a refused one does not count", x.weigh(0, 99), OUTSIDE);
        for (int i = 15; i >= 0; i--) {
            Check.due("undo()", x.undo(), i);
            Check.due("burden(0, 1)", x.burden(0, 1), 4 + i);
        }
        Check.due("undo() of 17", x.undo(), NOT);
        Check.due("burden(0, 1)", x.burden(0, 1), 4);
        x.weigh(0, 50);
        Check.due("undo()", x.undo(), 0);
        Check.due("burden(0, 1)", x.burden(0, 1), 4);
    }

    private static void undoOfEach() {
        SaddleFit x = Check.shop("f40;b0 60 20;b1 30 9;b3 7 7;p5 0;p9 1;p30 2;");
        x.take(0, 0);
        x.take(1, 1);
        x.share(1, 2);
        x.stuff(0, 3);
        x.day(2);
        x.keep(0);
        for (int deed = 0; deed < 8; deed++) {
            String before = Check.all(x);
            int seed = x.seed(0);
            x.seed(seed);
            int answer = 0;
            switch (deed) {
                case 0: answer = x.day(9); break;
                case 1: answer = x.take(2, 0); break;
                case 2: answer = x.share(0, 2); break;
                case 3: answer = x.down(1, 1); break;
                case 4: answer = x.hand(1, 2, 0); break;
                case 5: answer = x.stuff(0, -3); break;
                case 6: answer = x.weigh(1, 9); break;
                default: answer = x.drift(30); break;
            }
            if (answer < 0 || before.equals(Check.all(x))) {
                Check.fail("deed " + deed + " did nothing: " + answer);
            }
            int then = x.seed(0);
            x.seed(seed);
            Check.due("undo() of deed " + deed, x.undo(), 0);
            Check.same("undo() of deed " + deed, before, Check.all(x));
            if ((then != seed) != (deed == 7)) {
                Check.fail("the seed behind deed " + deed);
            }
        }
        x.drift(5);
        int seed = x.seed(1);
        x.seed(seed);
        x.undo();
        Check.due("the seed stays", x.seed(0), seed);
        x.feel(1, 1, 1);
        x.write(0, 0);
        x.day(1);
        x.undo();
        Check.row("what is felt stays", new int[] {x.told(11), x.told(12)}, 1, 1);
    }
}
