/** Section 3 of the document, sentence by sentence: what is tried. */
public final class Section3Test {
    public static void main(String[] args) {
        tried();
        sore();
        when();
        worst();
        fit();
        fitOfLikeOnes();
        byTwo();
        stuff();
        stuffForAll();
        order();
        could();
        most();
        shares();
        ring();
        fair();
        Says.nothingUntested();
        Check.end("Section3Test");
    }

    private static void tried() {
        Says.says("TRIED from now, as nothing else is done; nothing changes by it.");
        String[] calls = {
            "sore(0, 0)", "sore(0, 200)", "sore(1, 60)", "when(0)", "when(1)", "when(2)", "worst(1, 0)", "worst(60, 0)", "worst(60, 1)",
            "fit(NONE)", "fit(0)", "fit(4)", "byTwo(0, 0)", "byTwo(1, 1)", "byTwo(4, 0)", "order(0, 0)", "order(0, 1)", "order(1, 1)", "order(2, 0)",
            "could(3)", "could(4)", "shareOf(1, 0, 2)", "shareOf(4, 2, 1)", "fair(60, 50)", "told(5)", "told(6)", "told(9)", "told(14)",
            "burden(0, 3)", "back(0, 3)", "back(0, 6)", "back(2, 7)", "carries(0)", "carries(1)", "carries(2)", "tryNext()", "judge()", "fault()",
        };
        String untouched = Rich.deep(Rich.make());
        for (String call : calls) {
            Says.so(call + " changes nothing", untouched.equals(Rich.deep(Says.ask(Rich.make(), call))));
        }
        SaddleFit all = Rich.make();
        for (String call : calls) {
            Says.ask(all, call);
        }
        Says.so("all of them change nothing", untouched.equals(Rich.deep(all)));
    }

    private static void sore() {
        Says.says("SORE of a BACK behind n DAYS (0 .. 200).");
        Says.shop("f0;b3 5 1;b4 5 2;p9 0;p9 0;", "take(0, 0)  take(1, 0)  sore(0, 0) = 0  sore(0, 1) = 2  sore(0, 2) = 6  sore(0, 7) = 20  sore(0, 8) = 28  sore(0, 200) = 668 "
                + "sore(0, 201) = OUTSIDE  sore(0, -1) = OUTSIDE  sore(1, 200) = 0");
        Says.shop("f0;b0 1 5;p1 0;", "take(0, 0)  day(2)  down(0, 0)  sore(0, 0) = 10  sore(0, 1) = 7  sore(0, 3) = 1  sore(0, 4) = 0  sore(0, 200) = 0");
        Says.shop("f0;b0 60 20;b0 20 0;p1 0;", "take(0, 0)  take(1, 0)  sore(0, 100) = 9900  sore(0, 101) = 9999  sore(0, 102) = 9999  sore(0, 200) = 9999");
        SaddleFit x = Rich.make();
        for (int n = 1; n <= 60; n++) {
            for (int p = 0; p < 3; p++) {
                int said = x.sore(p, n);
                Says.ask(x, "day(" + n + ")  back(" + p + ", 2) = " + said + "  undo()");
            }
        }
        int said = x.sore(0, 200);
        Says.ask(x, "day(60)  day(60)  day(60)  day(20)  back(0, 2) = " + said);
    }

    private static void when() {
        Says.says("WHEN a BACK is GALLED first: behind how many DAYS (0 .. 200); NONE.");
        Says.shop("f0;b0 1 20;b0 1 19;b0 1 10;b0 1 1;b0 1 0;p9 0;p9 0;p9 0;p9 0;p9 0;",
                "when(0) = NONE  take(0, 0)  when(0) = 1  take(1, 1)  when(1) = 2  take(2, 2)  when(2) = 2  take(3, 3)  when(3) = 20  take(4, 4)  when(4) = NONE "
                + "day(1)  when(0) = 0  when(1) = 1  when(3) = 19  down(0, 0)  when(0) = 0  day(1)  when(0) = NONE  when(1) = 0  day(18)  when(3) = 0");
        Says.shop("f0;b4 1 1;b4 1 10;p9 0;p9 0;", "take(0, 0)  when(0) = 116  take(1, 1)  when(1) = 8  day(8)  when(1) = 0  when(0) = 108  undo()  when(0) = 116  day(7)  when(1) = 1");
        Says.shop("f0;b4 1 1;p9 0;", "day(8)  take(0, 0)  when(0) = 120  down(0, 0)  when(0) = NONE");
        Says.shop("f0;b3 1 0;p9 0;", "take(0, 0)  when(0) = 20  day(1)  when(0) = 19");
        Says.shop("f0;b1 1 1;p9 0;p9 0;", "take(0, 0)  share(0, 1)  when(0) = NONE  when(1) = NONE");
    }

    private static void worst() {
        Says.says("WORST: the DAY of the next n (1 .. 60) on which GALLING of all BACKS together is most: behind how many (0: today); of like ones the first; how much.");
        SaddleFit x = Says.shop("f0;b3 5 1;b4 5 2;b0 9 0;p9 0;p8 0;", "worst(60, 0) = 0  worst(60, 1) = 0  take(0, 0)  take(1, 0)  take(2, 1) "
                + "worst(1, 0) = 0  worst(1, 1) = 3  worst(2, 0) = 1  worst(2, 1) = 5  worst(3, 0) = 1  worst(4, 0) = 1  worst(7, 0) = 1  worst(7, 1) = 5 "
                + "worst(8, 0) = 7  worst(8, 1) = 9  worst(19, 0) = 7  worst(20, 0) = 7  worst(60, 0) = 7  worst(60, 1) = 9  worst(0, 0) = OUTSIDE  worst(61, 0) = OUTSIDE");
        Says.ask(x, "day(1)  worst(1, 0) = 0  worst(1, 1) = 5  worst(6, 0) = 0  worst(7, 0) = 6  day(6)  worst(60, 0) = 0  worst(60, 1) = 9  day(1)  worst(60, 0) = 11  worst(11, 0) = 1  worst(12, 0) = 11");
        Says.shop("f0;b0 5 3;b0 9 1;p4 0;p4 0;", "take(0, 0)  take(1, 1)  worst(60, 0) = 0  worst(60, 1) = 10");
        Says.shop("f0;", "worst(1, 0) = 0  worst(1, 1) = 0");
    }

    private static void fit() {
        Says.says("FIT: each BURDEN (PADS as they are, nobody shares) to one BACK, any number to one:");
        Says.shop("f9;b1 2 9;p9 0;p9 0;", "fit(NONE) = 9  stuff(0, 4)  fit(NONE) = 5  take(0, 1)  share(0, 0)  fit(NONE) = 5  fit(0) = 0  stuff(0, 5)  fit(NONE) = 0");
        Says.shop("f0;b0 60 0;p40 0;p40 0;", "fit(NONE) = 20  fit(0) = 0");
        Says.shop("f0;b0 1 0;b0 1 0;b0 1 0;b0 1 0;b0 1 0;b0 1 0;p1 0;p6 0;",
                "fit(NONE) = 0  fit(0) = 0  fit(1) = 1  fit(2) = 1  fit(3) = 1  fit(4) = 1  fit(5) = 1");
        Says.shop("f0;b0 1 0;b0 1 0;b0 1 0;b0 1 0;b0 1 0;b0 1 0;p6 0;p6 0;", "fit(NONE) = 0  fit(0) = 0  fit(5) = 0");
        Says.says("those by which GALLING of all together is least today;");
        Says.shop("f0;b0 10 0;b0 20 0;b2 30 1;p30 5;p30 0;", "fit(NONE) = 1  fit(0) = 0  fit(1) = 0  fit(2) = 1  take(2, 0)  take(0, 0)  day(1)  fit(NONE) = 1  fit(2) = 1 "
                + "weigh(0, 60)  fit(NONE) = 51  fit(0) = 0  fit(1) = 0  fit(2) = 1");
        Says.shop("f0;b4 1 9;b3 1 0;p9 0;", "fit(NONE) = 0  day(1)  fit(NONE) = 2  day(6)  fit(NONE) = 20  day(1)  fit(NONE) = 0");
        Says.shop("f0;b0 50 0;b0 50 0;p99 0;p1 0;", "fit(NONE) = 1  fit(0) = 0  fit(1) = 0");
    }

    private static void fitOfLikeOnes() {
        Says.says("of like ones the first (BURDEN by BURDEN the lesser BACK): how much; the BACK of a BURDEN; NONE: there are no BACKS.");
        Says.shop("f0;b0 1 0;b0 1 0;p1 0;p1 0;", "fit(0) = 0  fit(1) = 1");
        Says.shop("f0;b0 2 0;b0 1 0;b0 1 0;p2 0;p2 0;", "fit(NONE) = 0  fit(0) = 0  fit(1) = 1  fit(2) = 1");
        Says.shop("f0;b0 1 0;b0 2 0;b0 1 0;p2 0;p2 0;", "fit(NONE) = 0  fit(0) = 0  fit(1) = 1  fit(2) = 0");
        Says.shop("f0;b0 9 0;p1 0;p1 0;p1 0;p1 0;p1 0;", "fit(NONE) = 8  fit(0) = 0");
        Says.shop("f0;b0 9 0;p1 0;p2 0;p2 0;p2 0;p1 0;", "fit(NONE) = 7  fit(0) = 1");
        Says.shop("f0;b0 9 0;p1 0;p1 0;p1 0;p1 0;p2 0;", "fit(NONE) = 7  fit(0) = 4");
        Says.shop("f0;b0 1 0;", "fit(NONE) = NONE  fit(0) = NONE  fit(1) = UNKNOWN");
        Says.shop("f0;", "fit(NONE) = NONE");
        Says.fresh("fit(NONE) = NONE");
        Says.shop("f0;p1 0;", "fit(NONE) = 0");
    }

    private static void byTwo() {
        Says.says("BY TWO: likewise, but a told BURDEN is SHARED by two, the lesser BACK the first of them:");
        Says.shop("f0;b1 31 5;p15 0;p16 0;", "byTwo(0, 0) = 5  byTwo(0, 1) = 1");
        Says.shop("f0;b1 31 5;p16 0;p15 0;", "byTwo(0, 0) = 4  byTwo(0, 1) = 1  take(0, 1)  byTwo(0, 0) = 4");
        Says.shop("f9;b1 31 5;b0 9 3;b1 60 5;p16 0;p15 0;p9 0;", "byTwo(0, 0) = 72  byTwo(0, 1) = 1  stuff(0, 1)  byTwo(0, 0) = 72  stuff(0, 3)  byTwo(0, 0) = 68  stuff(2, 5)  byTwo(0, 0) = 63");
        Says.shop("f0;b0 2 0;b4 1 3;p1 0;p1 0;", "byTwo(0, 0) = 1  byTwo(1, 0) = 1  day(7)  byTwo(0, 0) = 7  byTwo(1, 0) = 13");
        Says.says("how much; 10 times the first and the other (of like ones the least);");
        Says.shop("f0;b1 2 0;p1 0;p1 0;p1 0;p1 0;p1 0;", "byTwo(0, 0) = 0  byTwo(0, 1) = 1");
        Says.shop("f0;b2 2 1;p1 9;p1 5;p1 5;p1 5;p1 9;", "byTwo(0, 0) = 12  byTwo(0, 1) = 12");
        Says.shop("f0;b2 2 1;p1 5;p1 9;p1 5;p1 5;p1 9;", "byTwo(0, 0) = 12  byTwo(0, 1) = 2");
        Says.shop("f0;b2 2 1;p1 9;p1 8;p1 7;p1 6;p1 5;", "byTwo(0, 0) = 13  byTwo(0, 1) = 34");
        Says.shop("f0;b0 2 0;b2 2 1;p1 5;p1 9;p1 9;p1 9;p1 5;", "byTwo(1, 0) = 13  byTwo(1, 1) = 4");
        Says.says("NONE: there are fewer than two BACKS.");
        Says.shop("f0;b1 2 0;p1 0;", "byTwo(0, 0) = NONE  byTwo(0, 1) = NONE");
        Says.shop("f0;b1 2 0;", "byTwo(0, 0) = NONE  byTwo(0, 1) = NONE");
        Says.shop("f0;b1 2 0;p1 0;p1 0;", "byTwo(0, 0) = 0  byTwo(0, 1) = 1");
    }

    private static void stuff() {
        Says.says("STUFF: the least FLOCK that must come to PADS (30 at most each; the stock is no matter) so that GALLING of a BACK is 0 today;");
        Says.shop("f0;b0 1 20;p1 0;", "back(0, 6) = 0  take(0, 0)  back(0, 6) = 20");
        Says.shop("f30;b0 1 20;b0 1 7;p2 0;", "take(0, 0)  stuff(0, 5)  back(0, 6) = 15  take(1, 0)  back(0, 6) = 22  stuff(0, 15)  back(0, 6) = 7  stuff(0, 10)  back(0, 6) = 7 "
                + "stuff(0, -11)  back(0, 6) = 8");
        Says.shop("f9;b1 2 5;p2 0;p2 0;", "take(0, 0)  back(0, 6) = 5  share(0, 1)  back(0, 6) = 4  back(1, 6) = 4  stuff(0, 3)  back(0, 6) = 1  stuff(0, 1)  back(0, 6) = 0  back(0, 3) = 0 "
                + "down(0, 1)  back(0, 6) = 1");
        Says.shop("f0;b1 2 1;b1 2 0;p9 0;p9 0;", "take(0, 0)  share(0, 1)  back(0, 6) = 0  take(1, 0)  share(1, 1)  back(0, 6) = 0  down(0, 0)  back(1, 6) = 1");
        Says.shop("f9;b2 2 5;p2 9;", "take(0, 0) = 14  back(0, 6) = 5  stuff(0, 4)  back(0, 6) = 1  stuff(0, 1)  back(0, 6) = 0");
        Says.shop("f0;b3 2 5;p2 9;", "take(0, 0)  back(0, 6) = 5  day(1)  back(0, 6) = NONE  day(1)  back(0, 6) = 5");
        Says.shop("f9;b4 2 5;p2 9;", "take(0, 0)  back(0, 6) = 0  day(7)  back(0, 6) = 5  stuff(0, 4)  back(0, 6) = 1  stuff(0, 1)  back(0, 6) = 0");
    }

    private static void stuffForAll() {
        Says.says("so that it is for all BACKS;");
        Says.shop("f0;b0 2 7;b0 1 5;b0 1 9;p2 0;p1 0;", "told(14) = 0  take(0, 0)  told(14) = 7  share(0, 1)  back(0, 6) = 7  back(1, 6) = 7  told(14) = 7  take(1, 0)  back(0, 6) = 12  told(14) = 12");
        Says.shop("f0;b0 1 7;b0 1 5;p9 0;p9 0;", "take(0, 0)  take(1, 1)  told(14) = 12");
        Says.shop("f0;b0 1 7;", "told(14) = 0");
        Says.fresh("told(14) = 0");
        Says.says("NONE: by none.");
        Says.shop("f0;b0 9 2;b3 1 0;p9 0;p9 0;", "take(0, 0)  back(0, 6) = 2  told(14) = 2  weigh(0, 10)  back(0, 6) = NONE  back(1, 6) = 0  told(14) = NONE  weigh(0, 9)  take(1, 1) "
                + "told(14) = 2  day(1)  back(0, 6) = 2  back(1, 6) = NONE  told(14) = NONE  down(1, 1)  told(14) = 2");
        Says.shop("f0;b0 10 0;p9 0;p9 0;", "take(0, 1)  told(14) = NONE  back(0, 6) = 0  share(0, 0)  told(14) = 0");
    }

    private static void order() {
        Says.says("ORDER: a BACK sets down all it carries, one BURDEN ahead of each DAY, the first now:");
        Says.shop("f0;b0 1 10;p1 0;", "take(0, 0)  day(1)  order(0, 0) = 7  order(0, 1) = 1");
        Says.shop("f0;b0 9 1;b0 9 4;p9 0;p9 0;", "take(0, 0)  take(1, 0)  day(1)  back(0, 2) = 14  order(0, 0) = 12  order(0, 1) = 21  take(0, 1) = NOT  share(0, 1)  order(0, 0) = 12");
        Says.shop("f0;b0 1 5;b0 1 5;b4 1 20;p99 0;", "take(0, 0)  take(1, 0)  take(2, 0)  day(6)  back(0, 2) = 60  order(0, 0) = 67  order(0, 1) = 132");
        Says.shop("f0;b0 1 5;b0 1 5;b4 1 20;p99 0;", "take(0, 0)  take(1, 0)  take(2, 0)  day(7)  back(0, 2) = 70  order(0, 0) = 82  order(0, 1) = 312");
        Says.says("how SORE it is at least behind as many DAYS as it carries BURDENS;");
        Says.shop("f0;b0 20 5;b1 31 4;b2 10 3;p25 4;p9 0;", "order(0, 0) = 0  take(0, 0)  take(1, 0)  take(2, 0)  order(0, 0) = 19  share(1, 1)  order(0, 0) = 9  order(1, 0) = 0");
        Says.shop("f0;b0 60 20;b0 60 20;b0 60 10;p1 0;", "take(0, 0)  take(1, 0)  take(2, 0)  day(60)  order(0, 0) = 9996  order(0, 1) = 123");
        Says.shop("f0;b0 1 9;p1 0;", "take(0, 0)  day(1)  down(0, 0)  order(0, 0) = 9");
        Says.says("the order by which it is so, of like ones the least (as a number of figures, each 1 more than the BURDEN; 0: none).");
        Says.shop("f0;b0 1 1;b0 1 2;p9 0;", "order(0, 1) = 0  take(0, 0)  order(0, 1) = 1  take(1, 0)  order(0, 0) = 0  order(0, 1) = 12  day(4)  order(0, 0) = 10  order(0, 1) = 21");
        Says.shop("f0;b0 1 0;b0 1 0;b0 1 0;b0 1 0;b0 1 0;b0 1 0;p99 0;p99 0;", "take(5, 0)  order(0, 1) = 6  take(3, 0)  order(0, 1) = 46  take(0, 0)  order(0, 1) = 146 "
                + "take(1, 0)  take(2, 0)  take(4, 0)  order(0, 0) = 0  order(0, 1) = 123456  order(1, 1) = 0");
        Says.shop("f0;b0 1 1;b0 1 2;b0 1 3;b0 1 4;b0 1 5;b0 1 6;p99 0;", "take(0, 0)  take(1, 0)  take(2, 0)  take(3, 0)  take(4, 0)  take(5, 0)  order(0, 0) = 32  order(0, 1) = 654321");
    }

    private static void could() {
        Says.says("COULD: BACKS (a SET) that could take up a BURDEN besides (alone) without GALLING more than now.");
        Says.shop("f9;b0 10 0;b0 10 1;b4 1 9;b3 1 0;b0 9 0;b1 1 1;p9 0;p10 0;p30 0;", "could(0) = 6  could(1) = 0  could(2) = 7  could(3) = 7  could(4) = 7  could(5) = 0  stuff(1, 1)  could(1) = 6 "
                + "take(4, 1)  could(0) = 4  could(2) = 7  could(3) = 7  could(4) = NOT  day(1)  could(3) = 0  day(6)  could(2) = 0  day(1)  could(2) = 7");
        Says.shop("f9;b2 1 1;b0 20 0;b4 1 0;p9 0;p9 0;p1 0;p1 0;p1 0;", "could(0) = 0  stuff(0, 1)  could(0) = 31  take(1, 0)  could(0) = 30  could(2) = 30  could(1) = NOT  share(1, 4)  could(2) = 14");
        Says.shop("f0;b0 1 0;", "could(0) = 0");
    }

    private static void most() {
        Says.says("MOST: the BACK with most PARTS; of like ones the least; NONE: there are none.");
        Says.shop("f0;b0 20 0;b0 20 0;b0 1 0;p5 0;p5 0;p5 0;", "told(9) = 0  take(0, 2)  told(9) = 2  take(1, 1)  told(9) = 1  take(2, 2)  told(9) = 2  down(2, 2)  share(0, 0)  told(9) = 1 "
                + "down(1, 1)  told(9) = 0  weigh(0, 21)  told(9) = 2");
        Says.shop("f0;b0 1 0;b0 1 0;b0 60 0;p5 0;p5 0;", "take(0, 0)  take(1, 0)  take(2, 1)  told(9) = 1");
        Says.shop("f0;b0 1 0;", "told(9) = NONE");
        Says.fresh("told(9) = NONE");
    }

    private static void shares() {
        Says.says("SHARES of a BURDEN for two BACKS by STRENGTH: of the second WEIGHT times its STRENGTH / both STRENGTHS (cut), of the first what is left.");
        Says.shop("f0;b0 31 0;b0 1 0;b0 60 0;p25 0;p40 0;p1 0;p99 0;", "shareOf(0, 0, 1) = 12  shareOf(0, 1, 0) = 20  shareOf(1, 0, 1) = 1  shareOf(1, 1, 0) = 1  shareOf(2, 2, 3) = 1 "
                + "shareOf(2, 3, 2) = 60  shareOf(2, 0, 1) = 24  weigh(2, 30)  shareOf(2, 0, 1) = 12  take(0, 2)  shareOf(0, 0, 1) = 12  shareOf(0, 1, 1) = UNKNOWN");
        Says.shop("f0;b0 59 0;p9 0;p9 0;", "shareOf(0, 0, 1) = 30  shareOf(0, 1, 0) = 30");
    }

    private static void ring() {
        Says.says("RING: BACKS (a SET) that are bound, straight or through others, with a BACK by BURDENS that are SHARED.");
        Says.shop("f0;b1 1 0;b1 1 0;b1 1 0;b1 1 0;p1 0;p1 0;p1 0;p1 0;p1 0;", "back(0, 7) = 1  back(4, 7) = 16  take(0, 3)  back(3, 7) = 8  share(0, 4)  back(3, 7) = 24  back(4, 7) = 24  back(0, 7) = 1 "
                + "take(1, 2)  share(1, 3)  back(4, 7) = 28  back(2, 7) = 28  take(2, 0)  share(2, 1)  back(0, 7) = 3  back(4, 7) = 28 "
                + "take(3, 1)  back(1, 7) = 3  share(3, 2)  back(0, 7) = 31  back(4, 7) = 31  back(2, 7) = 31  down(1, 3)  back(0, 7) = 7  back(3, 7) = 24");
        Says.shop("f0;b0 1 0;b0 1 0;p1 0;p1 0;", "take(0, 0)  take(1, 0)  back(0, 7) = 1  share(0, 1)  share(1, 1)  back(0, 7) = 3  down(0, 0)  back(0, 7) = 3  down(1, 1)  back(0, 7) = 1");
    }

    private static void fair() {
        Says.says("FAIR: odds of n fair days (0 .. 60), each by q of a hundred (0 .. 100): a BILLION times q / 100 each (cut).");
        Says.fresh("fair(0, 0) = 1000000000  fair(0, 100) = 1000000000  fair(1, 0) = 0  fair(1, 1) = 10000000  fair(1, 99) = 990000000  fair(1, 100) = 1000000000  fair(60, 100) = 1000000000 "
                + "fair(60, 0) = 0  fair(4, 1) = 10  fair(5, 1) = 0  fair(5, 33) = 3913539  fair(11, 33) = 5053  fair(6, 99) = 941480148 "
                + "fair(-1, 50) = OUTSIDE  fair(61, 50) = OUTSIDE  fair(1, -1) = OUTSIDE  fair(1, 101) = OUTSIDE");
        for (int q = 0; q <= 100; q++) {
            SaddleFit x = new SaddleFit();
            long odds = 1000000000L;
            for (int n = 0; n <= 60; n++) {
                Says.ask(x, "fair(" + n + ", " + q + ") = " + odds);
                odds = odds * q / 100;
            }
        }
    }
}
