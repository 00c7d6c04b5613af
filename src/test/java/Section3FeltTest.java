/** Section 3 of the document, sentence by sentence: what is felt, written, drawn, undone, kept. */
public final class Section3FeltTest {
    private static final String SHOP = "f40;b0 20 5;b1 31 4;b2 10 3;b3 6 0;b4 15 7;p25 4;p40 0;p10 9;";

    public static void main(String[] args) {
        felt();
        carries();
        tryNext();
        book();
        draws();
        daysByDraws();
        deedsByDraws();
        undone();
        undoneOldest();
        undoneWhat();
        images();
        Says.nothingUntested();
        Check.end("Section3FeltTest");
    }

    private static void felt() {
        Says.says("FELT (6 at most): one of STRENGTH s (1 .. 99), SPINE 0, carried an unknown BURDEN of KIND 0 alone (WEIGHT 1 to 60, EDGE 0 to 20) with a PAD of f (0 .. 30): GALLING was v (0 .. 99).");
        Says.fresh("feel(0, 0, 0) = OUTSIDE  feel(100, 0, 0) = OUTSIDE  feel(1, -1, 0) = OUTSIDE  feel(1, 31, 0) = OUTSIDE  feel(1, 0, -1) = OUTSIDE  feel(1, 0, 100) = OUTSIDE  told(11) = 0 "
                + "feel(1, 0, 0) = 1  feel(99, 0, 0) = 2  feel(1, 30, 0) = 3  feel(1, 0, 99) = 4  feel(99, 30, 99) = 5  feel(50, 15, 50) = 6  told(11) = 6  feel(1, 0, 0) = FULL "
                + "tear()  feel(1, 0, 0) = 1");
        Says.fresh("carries(0) = 1260  feel(1, 0, 79)  carries(0) = 1  carries(1) = 60  carries(2) = 20  feel(1, 1, 78)  carries(0) = 1  feel(2, 19, 59)  carries(0) = 1");
        Says.fresh("feel(1, 0, 0)  carries(0) = 1  carries(1) = 1  carries(2) = 0");
        Says.fresh("feel(1, 0, 80)  carries(0) = 0");
        Says.fresh("feel(59, 30, 1)  carries(0) = 21  carries(1) = 60  carries(2) = 0");
        Says.fresh("feel(99, 19, 1)  carries(0) = 60  carries(1) = 1  carries(2) = 20");
        Says.fresh("feel(60, 20, 0)  carries(0) = 1260  feel(99, 30, 0)  carries(0) = 1260  feel(99, 30, 1)  carries(0) = 0");
    }

    private static void carries() {
        Says.says("CARRIES: pairs WEIGHT, EDGE by which all that is FELT is so: how many; the least WEIGHT; the least EDGE with it; NONE.");
        Says.fresh("carries(0) = 1260  carries(1) = 1  carries(2) = 0  feel(20, 0, 15)  carries(0) = 35  carries(1) = 1  carries(2) = 15  feel(10, 5, 20)  carries(0) = 11  carries(1) = 20 "
                + "carries(2) = 15  feel(99, 0, 5)  carries(0) = 1  carries(1) = 30  carries(2) = 5  feel(99, 0, 6)  carries(0) = 0  carries(1) = NONE  carries(2) = NONE  tear()  carries(0) = 1260");
        Says.fresh("feel(58, 15, 4)  carries(0) = 60  carries(1) = 1  carries(2) = 19  feel(58, 30, 1)  carries(0) = 1  carries(1) = 59  carries(2) = 18");
        Says.fresh("feel(20, 20, 5)  carries(0) = 21  carries(1) = 25  carries(2) = 0");
        Says.fresh("feel(99, 0, 7)  feel(99, 0, 7)  feel(99, 0, 7)  feel(99, 0, 7)  feel(99, 0, 7)  carries(0) = 60  feel(30, 0, 8)  carries(0) = 1  carries(1) = 31");
    }

    private static void tryNext() {
        Says.says("TRY: of STRENGTHS 1 to 60, without a PAD, the one by GALLING of which these are told apart best: the greatest part that is alike is least;");
        Says.fresh("feel(20, 0, 15)  feel(10, 5, 20)  tryNext() = 30");
        Says.fresh("feel(58, 0, 21)  carries(0) = 2  tryNext() = 60");
        Says.fresh("feel(1, 0, 20)  carries(0) = 21  tryNext() = 21  feel(3, 18, 2)  carries(0) = 2  tryNext() = 2");
        Says.says("of like ones the least; NONE: none parts them.");
        Says.fresh("tryNext() = 1");
        Says.fresh("feel(1, 30, 0)  carries(0) = 21  tryNext() = 1");
        Says.fresh("feel(99, 0, 0)  carries(0) = 60  tryNext() = 1  tryNext() = 1  tear()  tryNext() = 1  feel(1, 0, 79)  tryNext() = NONE");
        Says.fresh("feel(60, 30, 0)  tryNext() = 1");
        Says.fresh("feel(1, 0, 79)  carries(0) = 1  tryNext() = NONE  feel(1, 0, 78)  carries(0) = 0  tryNext() = NONE");
    }

    private static void book() {
        Says.says("THE BOOK (15 at most) tells how SORE BACKS are: WRONG: the first that is otherwise now; NONE.");
        SaddleFit x = Says.shop("f0;b0 1 7;p1 0;p1 0;", "judge() = NONE  take(0, 1)  day(1)");
        for (int i = 1; i <= 14; i++) {
            Says.ask(x, "write(" + i % 2 + ", " + 7 * (i % 2) + ") = " + i + "  judge() = NONE");
        }
        Says.ask(x, "write(1, 8) = 15  judge() = 14  write(0, 0) = FULL  told(12) = 15  day(1)  judge() = 0  down(0, 1)  judge() = 0  undo()  undo()  judge() = 14  tear()  judge() = NONE");
        Says.shop("f0;b0 1 7;p1 0;p1 0;", "write(0, 0)  write(0, 9999)  write(1, 9999)  judge() = 1");
        Says.shop("f0;b0 60 20;b0 20 0;p1 0;", "take(0, 0)  take(1, 0)  write(0, 9999)  judge() = 0  day(60)  day(60)  judge() = NONE  down(0, 0)  down(1, 0)  day(1)  judge() = 0");
    }

    private static void draws() {
        Says.says("BY DRAWS: THE SEED (0 at first: each DRAW it becomes it times 1103515245 and 12345, left over by 2 to the 31; the DRAW of n is it / 65536, left over by n):");
        Says.fresh("seed(0) = 0");
        // Three draws from 0 on: 12345, 1406932606, 654583775.
        Says.shop("f0;b0 60 20;b1 30 9;p5 0;p9 1;", "drift(1)  seed(0) = 654583775  burden(0, 4) = 0");
        for (long start : new long[] {0, 1, 77, 65535, 65536, 1073741823, 1073741824, 2147483646, 2147483647}) {
            long seed = start;
            SaddleFit x = Says.shop("f0;b0 1 0;b0 1 0;p1 0;p1 0;", "seed(" + start + ")");
            for (int days = 1; days <= 60; days++) {
                for (int i = 0; i < 3 * days; i++) {
                    seed = Math.floorMod(seed * 1103515245L + 12345L, 2147483648L);
                }
                Says.ask(x, "drift(" + days + ")  seed(" + seed + ") = " + seed);
            }
        }
    }

    private static void daysByDraws() {
        Says.says("n DAYS: ahead of each, if there are BURDENS and BACKS, a DRAW of 4, of BURDENS, of BACKS:");
        Says.shop("f0;b0 20 0;", "seed(5)  drift(60) = 0  told(3) = 60  seed(5) = 5  drift(1)  told(3) = 61  seed(5) = 5");
        Says.shop("f0;p5 0;", "seed(5)  drift(60) = 0  told(3) = 60  seed(5) = 5");
        Says.shop("f0;", "seed(5)  drift(60) = 0  told(3) = 60  seed(5) = 5");
        // One of each is enough: three draws, of which the first is 0 of 4.
        Says.shop("f0;b0 9 0;p5 0;", "drift(1) = 0  burden(0, 4) = 0  back(0, 2) = 4  seed(0) = 654583775");
        for (int g = 0; g < 6; g++) {
            for (int p = 0; p < 5; p++) {
                int seed = seedFor(0, g, p, 6, 5);
                Says.shop("f0;b0 2 9;b0 2 9;b0 2 9;b0 2 9;b0 2 9;b0 2 9;p1 0;p1 0;p1 0;p1 0;p1 0;",
                        "seed(" + seed + ")  drift(1) = 0  told(3) = 1  told(7) = " + (63 - (1 << g)) + "  burden(" + g + ", 4) = " + p + "  back(" + p + ", 2) = 10");
            }
        }
    }

    /** Burden 0 is carried by nobody, 1 by back 0 alone, 2 by 1 and 2. */
    private static SaddleFit drawn(int deed, int g, int p) {
        SaddleFit x = Says.shop("f0;b0 8 1;b0 8 2;b0 9 3;p1 0;p1 0;p1 0;", "take(1, 0)  take(2, 1)  share(2, 2)");
        return Says.ask(x, "seed(" + seedFor(deed, g, p, 3, 3) + ")  drift(1)  told(3) = 1");
    }

    private static void unchanged(SaddleFit x) {
        Says.ask(x, "burden(0, 4) = NONE  burden(0, 5) = NONE  burden(1, 4) = 0  burden(1, 5) = NONE  burden(2, 4) = 1  burden(2, 5) = 2 "
                + "back(0, 2) = 9  back(1, 2) = 7  back(2, 2) = 6");
    }

    private static void deedsByDraws() {
        Says.says("on 0 it is TAKEN UP, if nobody carries it;");
        Says.ask(drawn(0, 0, 0), "burden(0, 4) = 0  burden(0, 5) = NONE  back(0, 2) = 18");
        Says.ask(drawn(0, 0, 2), "burden(0, 4) = 2  burden(0, 5) = NONE  back(2, 2) = 15");
        for (int p = 0; p < 3; p++) {
            unchanged(drawn(0, 1, p));
            unchanged(drawn(0, 2, p));
        }
        Says.says("on 1 SHARED, if it can be;");
        Says.ask(drawn(1, 1, 1), "burden(1, 4) = 0  burden(1, 5) = 1  back(0, 2) = 5  back(1, 2) = 13");
        Says.ask(drawn(1, 1, 2), "burden(1, 4) = 0  burden(1, 5) = 2  back(0, 2) = 5  back(2, 2) = 12");
        unchanged(drawn(1, 1, 0));
        for (int p = 0; p < 3; p++) {
            unchanged(drawn(1, 0, p));
            unchanged(drawn(1, 2, p));
        }
        Says.says("on 2 SET DOWN by that BACK, if it carries it;");
        Says.ask(drawn(2, 1, 0), "burden(1, 4) = NONE  burden(1, 5) = NONE  back(0, 2) = 0");
        Says.ask(drawn(2, 2, 1), "burden(2, 4) = 2  burden(2, 5) = NONE  back(1, 2) = 0  back(2, 2) = 11");
        Says.ask(drawn(2, 2, 2), "burden(2, 4) = 1  burden(2, 5) = NONE  back(1, 2) = 11  back(2, 2) = 0");
        unchanged(drawn(2, 1, 1));
        unchanged(drawn(2, 1, 2));
        unchanged(drawn(2, 2, 0));
        for (int p = 0; p < 3; p++) {
            unchanged(drawn(2, 0, p));
        }
        Says.says("on 3 nothing.");
        for (int g = 0; g < 3; g++) {
            for (int p = 0; p < 3; p++) {
                unchanged(drawn(3, g, p));
            }
        }
    }

    /** The least seed from which on these three are drawn. */
    private static int seedFor(int deed, int g, int p, int burdens, int backs) {
        for (int from = 0; from < 1000000; from++) {
            long first = (from * 1103515245L + 12345L) % 2147483648L;
            long second = (first * 1103515245L + 12345L) % 2147483648L;
            long third = (second * 1103515245L + 12345L) % 2147483648L;
            if (first / 65536 % 4 == deed && second / 65536 % burdens == g && third / 65536 % backs == p) {
                return from;
            }
        }
        Check.fail("no seed draws " + deed + ", " + g + ", " + p);
        return 0;
    }

    private static void undone() {
        Says.says("UNDONE: the latest of day(), take(), share(), down(), hand(), stuff(), weigh(), drift() that was not refused");
        String[] deeds = {"day(9)", "take(4, 1)", "share(0, 2)", "down(2, 2)", "hand(2, 1, 0)", "stuff(0, -3)", "stuff(3, 0)", "weigh(1, 9)", "weigh(1, 31)", "drift(30)"};
        for (String deed : deeds) {
            SaddleFit x = Says.ask(Rich.make(), "keep(0)");
            String before = Check.all(x);
            Says.ask(x, "seed(78)  " + deed + "  told(13) = 1  seed(78)  undo() = 0  undo() = NOT");
            Says.so("undo() of " + deed, before.equals(Check.all(x)));
        }
        String[] others = {"told(3)", "sore(0, 5)", "fit(NONE)", "feel(1, 1, 1)", "write(0, 0)", "tear()", "seed(5)", "feed(32)", "fault()", "tryNext()"};
        for (String other : others) {
            Says.ask(Rich.make(), "keep(0)  " + other + "  told(13) = 0  undo() = NOT");
        }
        Says.shop(SHOP, "weigh(0, 5)  weigh(0, 0) = OUTSIDE  take(9, 0) = UNKNOWN  down(0, 0) = NOT  day(61) = OUTSIDE  told(13) = 1  undo() = 0  burden(0, 1) = 20");
    }

    private static void undoneOldest() {
        Says.says("(16 at most are kept, the oldest are lost):");
        for (int deeds = 15; deeds <= 40; deeds++) {
            SaddleFit x = Says.shop("f0;b0 60 20;p5 0;", "");
            for (int i = 1; i <= deeds; i++) {
                Says.ask(x, "weigh(0, " + i + ")  told(13) = " + Math.min(i, 16));
            }
            int kept = Math.min(deeds, 16);
            for (int i = 1; i <= kept; i++) {
                int weight = i == deeds ? 60 : deeds - i;
                Says.ask(x, "undo() = " + (kept - i) + "  told(13) = " + (kept - i) + "  burden(0, 1) = " + weight);
            }
            Says.ask(x, "undo() = NOT  weigh(0, 59)  undo() = 0  undo() = NOT");
        }
    }

    private static void undoneWhat() {
        Says.says("all of section 2 is as ahead of it; THE SEED stays.");
        SaddleFit x = Rich.make();
        Says.ask(x, "seed(4)  drift(60)");
        int seed = x.seed(0);
        Says.so("a seed that is drawn on", seed != 4);
        Says.ask(x, "seed(" + seed + ")  undo()  seed(0) = " + seed);
        String before = Check.all(x);
        Says.ask(x, "take(3, 0)  weigh(3, 60)  stuff(3, 1)  day(60)  share(3, 1)  hand(3, 0, 2)  down(0, 0)  drift(60)  seed(0)");
        Says.so("all of it is another", !before.equals(Check.all(x)));
        Says.times(8, x, "undo()");
        Says.so("eight are undone", before.equals(Check.all(x)));
        Says.ask(x, "day(1)  feel(1, 1, 1)  write(0, 1)  feed(32)");
        int felt = x.told(11);
        int book = x.told(12);
        int letters = x.told(2);
        Says.ask(x, "undo()  told(11) = " + felt + "  told(12) = " + book + "  told(2) = " + letters);
    }

    private static void images() {
        Says.says("IMAGES 0, 1 keep all of section 2, THE SEED.");
        SaddleFit x = Says.shop(SHOP, "seed(11)  take(0, 0)  keep(0)");
        String first = Check.all(x);
        Says.ask(x, "take(1, 1)  share(1, 2)  stuff(1, 8)  weigh(0, 3)  day(13)  seed(12)  keep(1)");
        String second = Check.all(x);
        Says.ask(x, "day(60)  down(1, 1)  seed(13)  goBack(0) = 1");
        Says.so("image 0", first.equals(Check.all(x)));
        Says.ask(x, "drift(9)  goBack(1) = 1");
        Says.so("image 1", second.equals(Check.all(x)));
        Says.ask(x, "drift(9)  goBack(1) = 1");
        Says.so("image 1 again", second.equals(Check.all(x)));
        Says.ask(x, "goBack(0) = 1  drift(1)  seed(0)  goBack(0)  seed(11) = 11");
        Says.so("image 0 again", first.equals(Check.all(x)));
        Says.ask(x, "keep(2) = UNKNOWN  keep(-1) = UNKNOWN  goBack(2) = UNKNOWN  goBack(-1) = UNKNOWN");
        Says.ask(x, "feel(1, 1, 1)  write(0, 1)  feed(32)  goBack(0)  told(11) = 1  told(12) = 1  told(2) = 1");
    }
}
