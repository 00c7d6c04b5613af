/** Promises 1 to 7: the shop. */
public final class ShopTest {
    private static final String FAIR = "f40;b0 20 5;b1 31 4;b2 10 3;b3 6 0;b4 15 7;p25 4;p40 0;p10 9;";

    public static void main(String[] args) {
        newObject();
        feed();
        shop();
        faults();
        told();
        burden();
        back();
        Check.end("ShopTest");
    }

    private static void newObject() {
        SaddleFit x = new SaddleFit();
        int[] want = {0, 0, 0, 0, 0, 0, 0, 0, 0, -1, 0, 0, 0, 0, 0};
        for (int what = 0; what <= 14; what++) {
            Check.due("new told(" + what + ")", x.told(what), want[what]);
        }
        Check.due("new fault()", x.fault(), SaddleFit.NONE);
        Check.due("new day(1)", x.day(1), SaddleFit.NOT);
        Check.due("new seed(0)", x.seed(0), 0);
        Check.due("new burden(0, 0)", x.burden(0, 0), SaddleFit.UNKNOWN);
        Check.due("new back(0, 0)", x.back(0, 0), SaddleFit.UNKNOWN);
        Check.due("new goBack(0)", x.goBack(0), SaddleFit.NOT);
        Check.due("new fit(NONE)", x.fit(SaddleFit.NONE), SaddleFit.NONE);
        Check.due("new fit(0)", x.fit(0), SaddleFit.UNKNOWN);
        Check.due("new keep(1)", x.keep(1), 1);
        Check.due("new goBack(1)", x.goBack(1), 1);
    }

    private static void feed() {
        SaddleFit x = new SaddleFit();
        Check.due("feed(-1)", x.feed(-1), SaddleFit.OUTSIDE);
        Check.due("feed(256)", x.feed(256), SaddleFit.OUTSIDE);
        Check.due("told(2)", x.told(2), 0);
        Check.due("feed(0)", x.feed(0), 1);
        Check.due("feed(255)", x.feed(255), 2);
        for (int i = 3; i <= 240; i++) {
            Check.due("feed(32)", x.feed(32), i);
        }
        Check.due("feed(32) of 241", x.feed(32), SaddleFit.FULL);
        Check.due("feed(256) of 241", x.feed(256), SaddleFit.OUTSIDE);
        Check.due("told(2)", x.told(2), 240);
        Check.due("shop()", x.shop(), -11);
        Check.due("fault()", x.fault(), 0);
        Check.due("told(2)", x.told(2), 0);
        Check.due("feed(32)", x.feed(32), 1);
    }

    private static void shop() {
        SaddleFit x = Check.shop(FAIR);
        x.take(0, 0);
        x.share(0, 2);
        x.take(1, 1);
        x.take(2, 0);
        x.stuff(0, 5);
        x.weigh(1, 7);
        x.day(3);
        Check.row("there is much to be cleared", new int[] {x.back(0, 2), x.back(1, 2), x.back(2, 2)}, 21, 12, 0);
        x.feel(5, 5, 5);
        x.write(0, 1);
        x.seed(77);
        x.keep(0);
        x.day(1);
        Check.feed(x, "f1");
        String before = Check.held(x);
        Check.due("shop()", x.shop(), -11);
        Check.same("a faulty shop()", before, Check.held(x));
        Check.due("goBack(0) behind a fault", x.goBack(0), 1);
        x.day(1);
        Check.feed(x, FAIR);
        Check.due("shop()", x.shop(), 5);
        Check.due("fault()", x.fault(), SaddleFit.NONE);
        Check.due("goBack(0)", x.goBack(0), SaddleFit.NOT);
        Check.due("undo()", x.undo(), SaddleFit.NOT);
        Check.due("seed(77)", x.seed(77), 77);
        SaddleFit fresh = Check.shop(FAIR);
        fresh.seed(77);
        Check.same("shop()", Check.all(fresh), Check.all(x));
        emptied(x, "");
        Check.feed(x, FAIR);
        x.shop();
        emptied(x, "   ");
        Check.due("shop of flock alone", Check.feed(x, "f 7 ;").shop(), 0);
        Check.due("day(1)", x.day(1), 0);
        Check.due("told(4)", x.told(4), 7);
        String most = " f099 ; b 4 060 020 ;b0 1 0;b0 1 0;b0 1 0;b0 1 0;b0 1 0;p099 009;p1 0;p1 0;p1 0;p1 0;";
        x = Check.feed(new SaddleFit(), most + " ".repeat(240 - most.length()));
        Check.due("told(2)", x.told(2), 240);
        Check.due("shop()", x.shop(), 6);
        Check.due("told(1)", x.told(1), 5);
        Check.row("burden 0", new int[] {x.burden(0, 0), x.burden(0, 1), x.burden(0, 2)}, 4, 60, 20);
        Check.row("back 0", new int[] {x.back(0, 0), x.back(0, 1)}, 99, 9);
        Check.due("backs ahead of burdens", Check.feed(x, "f0;p1 0;b0 1 0;p2 2;b1 2 2;").shop(), 2);
    }

    private static void emptied(SaddleFit x, String text) {
        x.feel(1, 1, 1);
        x.day(1);
        Check.feed(x, text);
        Check.due("shop() of nothing", x.shop(), 0);
        Check.due("fault()", x.fault(), SaddleFit.NONE);
        Check.due("told(0)", x.told(0), 0);
        Check.due("told(3)", x.told(3), 0);
        Check.due("told(4)", x.told(4), 0);
        Check.due("told(11)", x.told(11), 0);
        Check.due("told(13)", x.told(13), 0);
        Check.due("day(1)", x.day(1), SaddleFit.NOT);
    }

    private static void faults() {
        String[] texts = {
            "b0 1 0;", "  p1 0;", "x", "F0;", "5", ";",
            "f", "f ", "f;", "fx;", "f0", "f0 ", "f0 0;", "f0b", "f-1;",
            "f100;", "f1000;", "f0000;", "f  0000", "f100x", "f100 1000;", "f99 1000;",
            "f0;f0;", "f0; f", "ff", "f0;b f", "f0;b0 1f",
            "f0;b5 1 0;", "f0;b0 0 0;", "f0;b0 61 0;", "f0;b0 1 21;", "f0;b01 0;", "f0;b0 1;", "f0;b0 1 0", "f0;b0 1 0 0;", "f0;b;",
            "f0;p0 0;", "f0;p100 0;", "f0;p1 10;", "f0;p1;", "f0;p1 0 p", "f0;p10;",
            "f0;;", "f0;c", "f0;\u00ff", "f0;\t", "f0;\u0000", "f0;b0\t1 0;",
            "f0;b0 1 0;b0 1 0;b0 1 0;b0 1 0;b0 1 0;b0 1 0;b",
            "f0;b0 1 0;b0 1 0;b0 1 0;b0 1 0;b0 1 0;b0 1 0;p1 0;f",
            "f0;b0 1 0;b0 1 0;b0 1 0;b0 1 0;b0 1 0;b0 1 0;q",
            "f0;p1 0;p1 0;p1 0;p1 0;p1 0;p",
            "f0;p1 0;p1 0;p1 0;p1 0;p1 0;  p9999",
        };
        int[] want = {
            1, 0, 1, 2, 1, 0, 1, 0, 1, 0, 1, 0,
            1, 1, 1, 2, 1, 1, 1, 1, 1, 2, 1, 3, 1, 3, 1, 2, 1, 1,
            2, 1, 2, 1, 2, 1, 2, 3, 2, 1, 2, 1, 1, 4,
            3, 3, 3, 4, 1, 1, 1, 5, 1, 7,
            2, 4, 2, 6, 2, 6, 2, 8, 2, 7, 1, 7, 1, 9, 1, 10, 1, 4,
            2, 4, 2, 4, 2, 6, 1, 5, 1, 8, 1, 6,
            1, 3, 1, 3, 1, 3, 1, 3, 1, 3, 1, 5,
            3, 45, 3, 50, 1, 45, 3, 28, 3, 30,
        };
        SaddleFit x = new SaddleFit();
        Check.due("as many wants as texts", want.length, 2 * texts.length);
        for (int i = 0; i < texts.length; i++) {
            Check.feed(x, texts[i]);
            Check.due("shop() of " + texts[i], x.shop(), -10 - want[2 * i]);
            Check.due("fault() of " + texts[i], x.fault(), want[2 * i + 1]);
            Check.due("told(2) behind " + texts[i], x.told(2), 0);
        }
        Check.due("shop() of nothing", x.shop(), 0);
        Check.due("fault() of nothing", x.fault(), SaddleFit.NONE);
    }

    private static void told() {
        SaddleFit x = Check.shop("f9;b0 20 5;b1 31 4;b4 10 3;p25 4;p40 0;p10 9;");
        x.feed('f');
        x.take(0, 0);
        x.take(1, 2);
        x.share(1, 0);
        x.stuff(0, 4);
        x.feel(1, 0, 0);
        x.write(0, 0);
        x.write(1, 0);
        // Back 0: 20 + 15 - 25 and 1 + 2; back 2: 16 - 10 and 2.
        int[] want = {3, 3, 1, 0, 5, 0, 21, 4, 2, 0, 0, 1, 2, 4, -1};
        for (int what = 0; what <= 14; what++) {
            Check.due("told(" + what + ")", x.told(what), want[what]);
        }
        Check.due("told(-1)", x.told(-1), SaddleFit.OUTSIDE);
        Check.due("told(15)", x.told(15), SaddleFit.OUTSIDE);
        x.day(7);
        Check.row("day 7", new int[] {x.told(3), x.told(5), x.told(6), x.told(10), x.told(13)}, 7, 5, 21, 1, 5);
        x.day(1);
        Check.due("told(10) behind August", x.told(10), 0);
        x.day(11);
        Check.due("told(10) a year on", x.told(10), 1);
        // MOST: of like ones the least.
        x = Check.shop("f0;b0 20 0;b0 20 0;p5 0;p5 0;p5 0;");
        Check.due("MOST of nothing", x.told(9), 0);
        x.take(0, 2);
        Check.due("MOST", x.told(9), 2);
        x.take(1, 1);
        Check.due("MOST of like ones", x.told(9), 1);
        Check.due("MOST without backs", Check.shop("f0;b0 1 0;").told(9), SaddleFit.NONE);
        Check.due("STUFF without backs", Check.shop("f0;b0 1 9;").told(14), 0);
    }

    private static void burden() {
        SaddleFit x = Check.shop("f9;b1 31 4;b2 7 20;p25 4;p40 0;");
        Check.row("burden 0", burdenRow(x, 0), 1, 31, 4, 0, -1, -1);
        Check.row("burden 1", burdenRow(x, 1), 2, 7, 20, 0, -1, -1);
        x.take(0, 1);
        x.share(0, 0);
        x.stuff(0, 9);
        x.weigh(0, 60);
        Check.row("burden 0", burdenRow(x, 0), 1, 60, 4, 9, 1, 0);
        Check.due("burden(2, 0)", x.burden(2, 0), SaddleFit.UNKNOWN);
        Check.due("burden(-1, 9)", x.burden(-1, 9), SaddleFit.UNKNOWN);
        Check.due("burden(0, 6)", x.burden(0, 6), SaddleFit.OUTSIDE);
        Check.due("burden(0, -1)", x.burden(0, -1), SaddleFit.OUTSIDE);
    }

    private static int[] burdenRow(SaddleFit x, int g) {
        int[] row = new int[6];
        for (int what = 0; what < row.length; what++) {
            row[what] = x.burden(g, what);
        }
        return row;
    }

    private static int[] backRow(SaddleFit x, int p) {
        int[] row = new int[8];
        for (int what = 0; what < row.length; what++) {
            row[what] = x.back(p, what);
        }
        return row;
    }

    private static void back() {
        SaddleFit x = Check.shop("f99;b0 9 5;b1 9 5;b2 9 5;b3 9 5;b4 9 5;p99 9;p14 3;p1 0;p2 0;p3 0;");
        for (int g = 0; g < 5; g++) {
            x.take(g, 0);
        }
        Check.row("back 0", backRow(x, 0), 99, 9, 0, 5 + 5 + 14 + 5, 31, 45, 20, 1);
        x.share(1, 1);
        Check.row("back 0 sharing", backRow(x, 0), 99, 9, 0, 5 + 2 + 14 + 5, 31, 41, 19, 3);
        Check.row("back 1 sharing", backRow(x, 1), 14, 3, 0, 2, 2, 4, 4, 3);
        Check.row("back 2", backRow(x, 2), 1, 0, 0, 0, 0, 0, 0, 4);
        x.share(0, 3);
        Check.row("back 3, ring through 0", backRow(x, 3), 2, 0, 0, 2 + 5, 1, 4, -1, 11);
        Check.due("ring of 1", x.back(1, 7), 11);
        Check.due("STUFF for all", x.told(14), SaddleFit.NONE);
        x.down(0, 3);
        Check.due("STUFF for all", x.told(14), 19);
        x.stuff(1, 3);
        Check.due("grief of 2, half of it", x.back(1, 3), 1);
        x.stuff(1, 1);
        Check.due("half of 1 is nothing", x.back(1, 3), 0);
        Check.due("nor does it want flock", x.back(1, 6), 0);
        Check.due("STUFF for all", x.told(14), 15);
        x.stuff(2, 5);
        Check.due("a debt without edge", x.back(0, 3), 5 + 0 + 0 + 5);
        x.day(1);
        Check.due("joy on an odd day", x.back(0, 3), 5 + 0 + 0 + 7);
        Check.due("STUFF against joy", x.back(0, 6), SaddleFit.NONE);
        Check.due("STUFF for another", x.back(1, 6), 0);
        Check.due("STUFF for all against joy", x.told(14), SaddleFit.NONE);
        x.day(6);
        Check.due("August", x.back(0, 3), 5 + 0 + 0 + 7 + 10);
        x.down(3, 0);
        Check.due("STUFF in August", x.back(0, 6), 5 + 5);
        x.day(1);
        Check.due("STUFF behind August", x.back(0, 6), 5);
        Check.due("back(5, 0)", x.back(5, 0), SaddleFit.UNKNOWN);
        Check.due("back(-1, 9)", x.back(-1, 9), SaddleFit.UNKNOWN);
        Check.due("back(4, 8)", x.back(4, 8), SaddleFit.OUTSIDE);
        Check.due("back(4, -1)", x.back(4, -1), SaddleFit.OUTSIDE);
        x = Check.shop("f0;b3 9 2;p9 0;");
        x.take(0, 0);
        Check.row("STUFF where parts are as great as strength", new int[] {x.back(0, 6), x.told(14)}, 2, 2);
        x.day(3);
        Check.row("STUFF against joy on day 3", new int[] {x.back(0, 6), x.told(14)}, -1, -1);
        x.weigh(0, 10);
        x.day(1);
        Check.row("STUFF where parts are greater", new int[] {x.back(0, 6), x.told(14)}, -1, -1);
        x = Check.shop("f0;b1 1 0;b1 1 0;b1 1 0;b1 1 0;p1 0;p1 0;p1 0;p1 0;p1 0;");
        for (int g = 3; g >= 0; g--) {
            x.take(3 - g, g);
            x.share(3 - g, g + 1);
        }
        Check.due("a ring of all", x.back(0, 7), 31);
        Check.due("a ring of all", x.back(4, 7), 31);
        x.down(1, 3);
        Check.row("a ring broken", new int[] {x.back(0, 7), x.back(2, 7), x.back(3, 7)}, 7, 7, 24);
        Check.row("half of 1 (cut), and what is left", new int[] {x.back(4, 5), x.back(1, 5), x.back(0, 5)}, 0, 1, 1);
    }
}
