/** Promises 17 to 25: what is tried; nothing changes by it. */
public final class TriedTest {
    private static final int NONE = SaddleFit.NONE, UNKNOWN = SaddleFit.UNKNOWN, OUTSIDE = SaddleFit.OUTSIDE, NOT = SaddleFit.NOT;

    public static void main(String[] args) {
        sore();
        when();
        worst();
        fit();
        byTwo();
        order();
        could();
        shareOf();
        fair();
        fullShop();
        nothingChanges();
        Check.end("TriedTest");
    }

    private static void sore() {
        SaddleFit x = Check.shop("f0;b3 5 1;b4 5 2;p9 0;p9 0;");
        x.take(0, 0);
        x.take(1, 0);
        // Parts are 1 above strength; joy rubs 1 and 3 by turns; August is 4 more.
        Check.row("sore(0, n)", new int[] {x.sore(0, 0), x.sore(0, 1), x.sore(0, 2), x.sore(0, 7), x.sore(0, 8)}, 0, 2, 6, 20, 28);
        Check.due("sore(0, 200)", x.sore(0, 200), 600 + 17 * 4);
        x.day(2);
        x.down(0, 0);
        x.down(1, 0);
        Check.row("rest", new int[] {x.sore(0, 0), x.sore(0, 1), x.sore(0, 2), x.sore(0, 3)}, 6, 3, 0, 0);
        Check.due("sore(0, -1)", x.sore(0, -1), OUTSIDE);
        Check.due("sore(0, 201)", x.sore(0, 201), OUTSIDE);
        Check.due("sore(2, 201)", x.sore(2, 201), UNKNOWN);
        Check.due("sore(-1, 0)", x.sore(-1, 0), UNKNOWN);
        x = Check.shop("f0;b0 60 20;b0 60 20;b0 60 20;p1 0;");
        for (int g = 0; g < 3; g++) {
            x.take(g, 0);
        }
        Check.row("9999 at most", new int[] {x.sore(0, 41), x.sore(0, 42), x.sore(0, 200)}, 9799, 9999, 9999);
    }

    private static void when() {
        SaddleFit x = Check.shop("f0;b0 20 19;b4 1 10;b4 1 1;b0 1 1;p20 0;p20 0;p20 0;p20 0;p20 0;");
        Check.due("when(0) carrying nothing", x.when(0), NONE);
        x.take(0, 0);
        Check.due("when(0)", x.when(0), 2);
        x.take(1, 1);
        Check.due("when(1) in August", x.when(1), 8);
        x.take(2, 2);
        Check.due("when(2) of 10 Augusts", x.when(2), 12 * 9 + 8);
        x.take(3, 3);
        Check.due("when(3)", x.when(3), 20);
        x.day(2);
        Check.due("when(0) now", x.when(0), 0);
        Check.due("when(5)", x.when(5), UNKNOWN);
        Check.due("when(-1)", x.when(-1), UNKNOWN);
        // Untold ones gall least of all: ten Augusts, the first of them 11 days on, are the longest wait there is.
        x = Check.shop("f0;b4 1 1;p9 0;");
        x.day(8);
        x.take(0, 0);
        Check.due("when from day 8 on", x.when(0), 11 + 12 * 9 + 1);
        x.down(0, 0);
        Check.due("when it carries nothing", x.when(0), NONE);
    }

    private static void worst() {
        SaddleFit none = new SaddleFit();
        Check.due("worst(0, 0) without a shop", none.worst(0, 0), OUTSIDE);
        Check.due("worst(1, 2) without a shop", none.worst(1, 2), OUTSIDE);
        Check.due("worst(60, 1) without a shop", none.worst(60, 1), NOT);
        SaddleFit x = Check.shop("f0;b3 5 1;b4 5 2;b0 9 0;p9 0;p8 0;");
        Check.row("nobody carries", new int[] {x.worst(60, 0), x.worst(60, 1)}, 0, 0);
        x.take(0, 0);
        x.take(1, 0);
        x.take(2, 1);
        Check.row("worst(1, w)", new int[] {x.worst(1, 0), x.worst(1, 1)}, 0, 3);
        Check.row("worst(2, w)", new int[] {x.worst(2, 0), x.worst(2, 1)}, 1, 5);
        Check.row("worst(7, w)", new int[] {x.worst(7, 0), x.worst(7, 1)}, 1, 5);
        Check.row("worst(8, w)", new int[] {x.worst(8, 0), x.worst(8, 1)}, 7, 9);
        Check.row("worst(60, w)", new int[] {x.worst(60, 0), x.worst(60, 1)}, 7, 9);
        x.day(8);
        Check.row("worst(60, w) from day 8", new int[] {x.worst(60, 0), x.worst(60, 1)}, 11, 9);
        Check.row("bounds", new int[] {x.worst(0, 0), x.worst(61, 0), x.worst(1, -1), x.worst(1, 2)}, OUTSIDE, OUTSIDE, OUTSIDE, OUTSIDE);
        Check.row("an empty shop", new int[] {Check.shop("f0;").worst(1, 0), Check.shop("f0;").worst(1, 1)}, 0, 0);
    }

    private static void fit() {
        SaddleFit x = Check.shop("f0;b0 10 0;b0 20 0;b2 30 1;p30 5;p30 0;");
        // The debt to back 1, the two others fill back 0.
        Check.row("fit", new int[] {x.fit(-1), x.fit(0), x.fit(1), x.fit(2)}, 1, 0, 0, 1);
        Check.row("fit", new int[] {x.fit(3), x.fit(-2)}, UNKNOWN, UNKNOWN);
        x.take(2, 0);
        x.share(2, 1);
        Check.due("whoever carries now is no matter", x.fit(2), 1);
        x.weigh(0, 60);
        Check.row("weights as they are", new int[] {x.fit(-1), x.fit(0), x.fit(1), x.fit(2)}, 51, 0, 0, 1);
        x = Check.shop("f0;b0 1 0;b0 1 0;p1 0;p1 0;");
        Check.row("of like ones the first", new int[] {x.fit(0), x.fit(1)}, 0, 1);
        x = Check.shop("f0;b4 1 9;b3 1 0;p9 0;");
        Check.due("fit on day 0", x.fit(-1), 0);
        x.day(7);
        Check.due("fit in August, on an odd day", x.fit(-1), 20);
        x = Check.shop("f9;b1 1 9;p9 0;p9 0;");
        x.stuff(0, 4);
        Check.due("grief alone, with its pad", x.fit(-1), 5);
        x = Check.shop("f0;b0 1 0;");
        Check.row("no backs", new int[] {x.fit(-1), x.fit(0), x.fit(1)}, NONE, NONE, UNKNOWN);
        x = Check.shop("f0;p1 0;");
        Check.row("no burdens", new int[] {x.fit(-1), x.fit(0)}, 0, UNKNOWN);
    }

    private static void byTwo() {
        SaddleFit x = Check.shop("f0;b1 31 5;b0 9 0;p16 0;p15 0;p9 0;");
        Check.row("byTwo(0)", new int[] {x.byTwo(0, 0), x.byTwo(0, 1)}, 4, 1);
        Check.row("byTwo(1)", new int[] {x.byTwo(1, 0), x.byTwo(1, 1)}, 5 + 15, 12);
        Check.row("refused", new int[] {x.byTwo(2, 2), x.byTwo(-1, 0), x.byTwo(0, 2), x.byTwo(0, -1)}, UNKNOWN, UNKNOWN, OUTSIDE, OUTSIDE);
        x = Check.shop("f0;b1 31 5;b0 9 3;b0 60 1;p16 0;p15 0;p9 0;");
        Check.row("all others are laid, too", new int[] {x.byTwo(0, 0), x.byTwo(0, 1)}, 2 + 2 + 3 + 1 + 60, 1);
        x = Check.shop("f0;b1 31 5;p15 0;p16 0;");
        Check.due("the lesser back is the first", x.byTwo(0, 0), 4 + 1);
        x = Check.shop("f0;b1 2 0;p1 0;p1 0;p1 0;p1 0;p1 0;");
        Check.due("of like ones the least", x.byTwo(0, 1), 1);
        x = Check.shop("f0;b2 2 1;p1 9;p1 8;p1 7;p1 6;p1 5;");
        Check.row("a debt on two spines", new int[] {x.byTwo(0, 0), x.byTwo(0, 1)}, 2 + 6 + 5, 34);
        x = Check.shop("f0;b1 2 0;p1 0;");
        Check.row("one back", new int[] {x.byTwo(0, 0), x.byTwo(0, 1), x.byTwo(0, 2), x.byTwo(1, 0)}, NONE, NONE, OUTSIDE, UNKNOWN);
    }

    private static void order() {
        SaddleFit x = Check.shop("f0;b0 20 5;b1 31 4;b2 10 3;p25 4;p9 0;");
        Check.row("nothing", new int[] {x.order(0, 0), x.order(0, 1)}, 0, 0);
        for (int g = 0; g < 3; g++) {
            x.take(g, 0);
        }
        Check.row("order(0, w)", new int[] {x.order(0, 0), x.order(0, 1)}, 17 + 5 - 3, 231);
        x.share(1, 1);
        // The grief weighs 16 and rubs 2 now.
        Check.row("order(0, w) sharing", new int[] {x.order(0, 0), x.order(0, 1)}, 10 + 2 - 3, 132);
        Check.row("refused", new int[] {x.order(2, 5), x.order(-1, 0), x.order(0, 2), x.order(0, -1)}, UNKNOWN, UNKNOWN, OUTSIDE, OUTSIDE);
        x = Check.shop("f0;b0 1 0;b0 1 0;b0 1 0;b0 1 0;b0 1 0;b0 1 0;p99 0;");
        for (int g = 5; g >= 0; g--) {
            x.take(g, 0);
        }
        Check.row("of like ones the least", new int[] {x.order(0, 0), x.order(0, 1)}, 0, 123456);
        // Untold: August is behind 1 day, so it goes down ahead of it.
        x = Check.shop("f0;b0 1 5;b0 1 5;b4 1 20;p99 0;");
        x.day(6);
        for (int g = 0; g < 3; g++) {
            x.take(g, 0);
        }
        Check.row("ahead of August", new int[] {x.order(0, 0), x.order(0, 1)}, 5 + 5 - 3, 132);
        x = Check.shop("f0;b0 60 20;b0 60 20;b0 60 10;p1 0;");
        for (int g = 0; g < 3; g++) {
            x.take(g, 0);
        }
        x.day(60);
        Check.row("9999 at most, 3 less on the last day", new int[] {x.order(0, 0), x.order(0, 1)}, 9996, 123);
    }

    private static void could() {
        SaddleFit x = Check.shop("f9;b0 10 0;b0 10 1;b4 1 9;b3 1 0;b0 9 0;p9 0;p10 0;p30 0;");
        Check.row("could", new int[] {x.could(0), x.could(1), x.could(2), x.could(3)}, 6, 0, 7, 7);
        x.stuff(1, 1);
        Check.due("with its pad", x.could(1), 6);
        x.take(4, 1);
        Check.row("besides", new int[] {x.could(0), x.could(2)}, 4, 7);
        x.day(7);
        Check.row("in August, on an odd day", new int[] {x.could(2), x.could(3)}, 0, 0);
        Check.due("could(4)", x.could(4), NOT);
        Check.due("could(5)", x.could(5), UNKNOWN);
        Check.due("could(-1)", x.could(-1), UNKNOWN);
        Check.due("without backs", Check.shop("f0;b0 1 0;").could(0), 0);
    }

    private static void shareOf() {
        SaddleFit x = Check.shop("f0;b0 31 0;p25 0;p40 0;p1 0;");
        Check.row("shareOf", new int[] {x.shareOf(0, 0, 1), x.shareOf(0, 1, 0), x.shareOf(0, 0, 2), x.shareOf(0, 2, 0)}, 12, 20, 30, 2);
        x.weigh(0, 60);
        Check.due("shareOf of the weight as it is", x.shareOf(0, 0, 1), 24);
        Check.row("refused", new int[] {x.shareOf(1, 0, 1), x.shareOf(0, 3, 1), x.shareOf(0, 0, -1), x.shareOf(0, 1, 1)}, UNKNOWN, UNKNOWN, UNKNOWN, UNKNOWN);
    }

    private static void fair() {
        SaddleFit x = new SaddleFit();
        Check.row("fair", new int[] {x.fair(0, 0), x.fair(0, 100), x.fair(1, 0), x.fair(60, 100), x.fair(60, 0)}, 1000000000, 1000000000, 0, 1000000000, 0);
        Check.row("fair", new int[] {x.fair(4, 1), x.fair(5, 1), x.fair(5, 33), x.fair(6, 33)}, 10, 0, 3913539, 1291467);
        // Cut on each day: cut once at the end these would be 1 more.
        Check.row("fair", new int[] {x.fair(11, 33), x.fair(6, 99)}, 5053, 941480148);
        Check.row("refused", new int[] {x.fair(-1, 0), x.fair(61, 0), x.fair(0, -1), x.fair(0, 101)}, OUTSIDE, OUTSIDE, OUTSIDE, OUTSIDE);
    }

    private static void fullShop() {
        SaddleFit x = Check.shop("f0;b0 10 0;b0 10 0;b0 10 0;b0 10 0;b0 10 0;b4 10 0;p10 0;p10 0;p10 0;p10 0;p20 0;");
        Check.row("fit", new int[] {x.fit(-1), x.fit(0), x.fit(1), x.fit(2), x.fit(3), x.fit(4), x.fit(5)}, 0, 0, 1, 2, 3, 4, 4);
        Check.row("byTwo of the last", new int[] {x.byTwo(5, 0), x.byTwo(5, 1), x.byTwo(0, 0), x.byTwo(0, 1)}, 5, 1, 5, 1);
        Check.due("could", x.could(5), 31);
        for (int g = 0; g < 6; g++) {
            x.take(g, 4);
        }
        Check.row("could", new int[] {x.could(5), x.fit(6), x.byTwo(6, 0), x.could(6), x.when(5)}, NOT, UNKNOWN, UNKNOWN, UNKNOWN, UNKNOWN);
        Check.row("all on the last", new int[] {x.worst(60, 0), x.worst(60, 1), x.when(4), x.sore(4, 2), x.back(4, 3)}, 0, 40, 1, 80, 40);
        Check.row("order", new int[] {x.order(4, 0), x.order(4, 1)}, 30 + 20 + 10 - 3, 123456);
        x.down(5, 4);
        Check.due("could", x.could(5), 15);
    }

    private static void nothingChanges() {
        SaddleFit x = Check.shop("f9;b0 20 5;b1 31 4;b2 10 3;b4 7 7;p25 4;p9 0;p50 5;");
        x.take(0, 0);
        x.take(1, 0);
        x.share(1, 2);
        x.stuff(0, 3);
        x.day(5);
        String before = Check.all(x);
        x.sore(0, 200);
        x.when(0);
        x.worst(60, 1);
        x.fit(-1);
        x.byTwo(1, 1);
        x.order(0, 1);
        x.could(2);
        x.shareOf(1, 0, 2);
        x.fair(60, 50);
        Check.same("what is tried", before, Check.all(x));
    }
}
