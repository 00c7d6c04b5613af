/** Section 2 of the document, sentence by sentence: what is carried, how it galls, what is done. */
public final class Section2Test {
    public static void main(String[] args) {
        carried();
        pads();
        parts();
        rubs();
        plain();
        grief();
        debt();
        joy();
        untold();
        galling();
        sore();
        rest();
        days();
        galled();
        takenUp();
        shared();
        setDown();
        handedOn();
        stuffed();
        weighed();
        Says.nothingUntested();
        Check.end("Section2Test");
    }

    private static void carried() {
        Says.says("A BURDEN is carried by no BACK (at first), by one, or SHARED by two;");
        Says.shop("f0;b0 8 0;b0 9 0;p9 0;p9 0;",
                "burden(0, 4) = NONE  burden(0, 5) = NONE  burden(1, 4) = NONE  burden(1, 5) = NONE  told(7) = 3  told(8) = 0  back(0, 4) = 0  back(1, 4) = 0 "
                + "take(0, 1)  burden(0, 4) = 1  burden(0, 5) = NONE  told(7) = 2  told(8) = 0  back(0, 4) = 0  back(1, 4) = 1 "
                + "share(0, 0)  burden(0, 4) = 1  burden(0, 5) = 0  told(7) = 2  told(8) = 1  back(0, 4) = 1  back(1, 4) = 1  burden(1, 4) = NONE");
    }

    private static void pads() {
        Says.says("a PAD of FLOCK is on it (0 pounds at first, 30 at most).");
        Says.shop("f99;b0 1 20;b0 1 20;p1 0;",
                "burden(0, 3) = 0  stuff(0, -1) = NOT  stuff(0, 29) = 29  stuff(0, 2) = NOT  stuff(0, 1) = 30  stuff(0, 1) = NOT  burden(0, 3) = 30 "
                + "burden(1, 3) = 0  stuff(1, 30) = 30  stuff(0, -30) = 0  stuff(0, -1) = NOT  burden(0, 3) = 0  burden(1, 3) = 30");
    }

    private static void parts() {
        Says.says("PART that a BACK bears: WEIGHT; if SHARED, half of it (cut), but the first of the two what is left.");
        for (int w = 1; w <= 60; w++) {
            Says.shop("f0;b0 " + w + " 0;p1 0;p1 0;",
                    "take(0, 1)  back(1, 5) = " + w + "  share(0, 0)  back(1, 5) = " + (w + 1) / 2 + "  back(0, 5) = " + w / 2);
        }
        Says.shop("f0;b0 31 0;b0 31 0;b0 1 0;p1 0;p1 0;",
                "take(0, 0)  share(0, 1)  back(0, 5) = 16  back(1, 5) = 15  take(1, 1)  share(1, 0)  back(0, 5) = 31  back(1, 5) = 31 "
                + "take(2, 0)  share(2, 1)  back(0, 5) = 32  back(1, 5) = 31");
    }

    private static void rubs() {
        Says.says("RUBS on a BACK, by R, EDGE less its PAD (0 at least), by KIND:");
        String text = "f99;b0 1 20;b1 1 20;b2 1 20;b3 1 20;b4 1 20;p1 9;p1 9;p1 9;p1 9;p1 9;";
        String pad = "back(0, 3) = 20  stuff(0, 19)  back(0, 3) = 1  stuff(0, 1)  back(0, 3) = 0  stuff(0, 1)  back(0, 3) = 0  stuff(0, 9)  back(0, 3) = 0";
        Says.shop(text, "take(0, 0)" + pad);
        Says.shop(text, "take(1, 0)" + pad.replace("stuff(0,", "stuff(1,"));
        Says.shop(text, "take(2, 0) = 29  stuff(2, 19)  back(0, 3) = 10  stuff(2, 1)  back(0, 3) = 0  stuff(2, 1)  back(0, 3) = 0  stuff(2, 9)  back(0, 3) = 0");
        Says.shop(text, "take(3, 0)" + pad.replace("stuff(0,", "stuff(3,"));
        Says.shop(text, "take(4, 0) = 0  day(7)  back(0, 3) = 40  stuff(4, 19)  back(0, 3) = 2  stuff(4, 1)  back(0, 3) = 0  stuff(4, 10)  back(0, 3) = 0");
        Says.shop(text, "take(1, 0)  share(1, 1)  stuff(1, 30)  back(0, 3) = 0  back(1, 3) = 0  day(7)  take(3, 2)  stuff(3, 30)  back(2, 3) = 2");
    }

    private static void plain() {
        Says.says("0: R.");
        for (int e = 0; e <= 20; e++) {
            String r = "= " + e + " ";
            Says.shop("f0;b0 2 " + e + ";p2 9;p1 9;", "take(0, 0) " + r + "share(0, 1) " + r + "back(0, 3) " + r + "day(1)  back(0, 3) " + r
                    + "day(6)  back(0, 3) " + r + "back(1, 3) " + r + "down(0, 0)  back(1, 3) = " + (e + 1));
        }
    }

    private static void grief() {
        Says.says("1 (grief): R, half of it (cut), if SHARED.");
        for (int e = 0; e <= 20; e++) {
            String half = "= " + e / 2 + " ";
            Says.shop("f0;b1 2 " + e + ";p2 9;p2 9;", "take(0, 0) = " + e + "  share(0, 1) " + half + "back(0, 3) " + half + "day(7)  back(0, 3) " + half
                    + "down(0, 0)  back(1, 3) = " + e);
        }
        Says.shop("f9;b1 1 9;p2 0;p2 0;", "take(0, 1)  share(0, 0)  stuff(0, 2)  back(0, 3) = 3  stuff(0, 5)  back(0, 3) = 1  stuff(0, 1)  back(0, 3) = 0  back(1, 3) = 0");
    }

    private static void debt() {
        Says.says("2 (debt): R, and SPINE of the BACK, if R is 1 or more.");
        for (int spine = 0; spine <= 9; spine++) {
            Says.shop("f9;b2 2 2;p2 " + spine + ";p2 3;", "take(0, 0) = " + (2 + spine) + "  stuff(0, 1)  back(0, 3) = " + (1 + spine)
                    + "  share(0, 1) = 4  back(0, 3) = " + (1 + spine) + "  stuff(0, 1)  back(0, 3) = 0  back(1, 3) = 0  stuff(0, 1)  back(0, 3) = 0");
            Says.shop("f0;b2 1 0;b2 1 0;p2 " + spine + ";", "take(0, 0) = 0  take(1, 0) = 0  day(7)  back(0, 3) = 0");
        }
        Says.shop("f0;b2 1 1;b2 1 2;p2 9;", "take(0, 0) = 10  take(1, 0) = 21");
    }

    private static void joy() {
        Says.says("3 (joy): R, and 2 on DAYS of an odd number.");
        SaddleFit x = Says.shop("f0;b3 1 5;b3 2 0;p1 9;p1 9;p1 9;", "take(0, 0) = 5  take(1, 1) = 1  share(1, 2) = 0  back(1, 3) = 0");
        for (int day = 1; day <= 60; day++) {
            int more = day % 2 == 1 ? 2 : 0;
            Says.ask(x, "day(1)  back(0, 3) = " + (5 + more) + "  back(1, 3) = " + more + "  back(2, 3) = " + more);
        }
    }

    private static void untold() {
        Says.says("4 (untold): 0, but in AUGUST (DAYS that leave over 7 by 12) twice R.");
        SaddleFit x = Says.shop("f0;b4 1 5;b4 2 20;p1 9;p1 9;p1 9;", "told(10) = 0  take(0, 0) = 0  take(1, 1) = 1  share(1, 2) = 0  back(1, 3) = 0");
        for (int day = 1; day <= 60; day++) {
            boolean august = day == 7 || day == 19 || day == 31 || day == 43 || day == 55;
            Says.ask(x, "day(1)  told(10) = " + (august ? 1 : 0) + "  back(0, 3) = " + (august ? 10 : 0) + "  back(1, 3) = " + (august ? 40 : 0)
                    + "  back(2, 3) = " + (august ? 40 : 0));
        }
    }

    private static void galling() {
        Says.says("GALLING of a BACK: all PARTS that it bears, less STRENGTH (0 at least), and all that RUBS on it.");
        Says.shop("f0;b0 10 4;b0 5 3;p14 0;", "take(0, 0) = 4  take(1, 0) = 8  back(0, 3) = 8");
        Says.shop("f0;b0 10 4;b0 5 3;p15 0;", "take(0, 0) = 4  take(1, 0) = 7");
        Says.shop("f0;b0 10 4;b0 5 3;p99 0;", "back(0, 3) = 0  take(0, 0) = 4  take(1, 0) = 7");
        Says.shop("f0;b0 60 20;b0 60 20;b0 60 20;b0 60 20;b0 60 20;b2 60 20;p1 9;",
                "take(0, 0) = 79  take(1, 0) = 159  take(2, 0) = 239  take(3, 0) = 319  take(4, 0) = 399  take(5, 0) = 488  told(6) = 488");
        Says.shop("f0;b0 31 2;b0 5 1;p15 0;p10 0;", "take(0, 0)  share(0, 1) = 7  back(0, 3) = 3  take(1, 0) = 9  told(6) = 16");
    }

    private static void sore() {
        Says.says("SORE: 0 at first.");
        Says.shop("f0;b0 60 20;p1 0;p1 0;p1 0;p1 0;p1 0;", "back(0, 2) = 0  back(1, 2) = 0  back(2, 2) = 0  back(3, 2) = 0  back(4, 2) = 0  take(0, 0)  back(0, 2) = 0");
        Says.says("A DAY: each BACK is as much more SORE as its GALLING (9999 at most);");
        Says.shop("f0;b0 5 3;b0 1 7;p1 0;p1 0;p1 0;", "take(0, 0) = 7  take(1, 2) = 7  day(1)  back(0, 2) = 7  back(1, 2) = 0  back(2, 2) = 7  day(2)  back(0, 2) = 21  back(2, 2) = 21");
        String hundred = "take(0, 0)  take(1, 0) = 99  day(60)  day(40)  back(0, 2) = 9900 ";
        String text = "f0;b0 60 20;b0 20 0;p1 0;";
        Says.shop(text, hundred + "day(1)  back(0, 2) = 9999  day(1)  back(0, 2) = 9999  day(60)  back(0, 2) = 9999");
        Says.shop(text, hundred + "weigh(1, 19)  day(1)  back(0, 2) = 9998  day(1)  back(0, 2) = 9999");
        Says.shop(text, hundred + "weigh(1, 21)  day(1)  back(0, 2) = 9999");
        Says.shop(text, hundred + "weigh(1, 60)  day(60)  back(0, 2) = 9999");
    }

    private static void rest() {
        Says.says("one that carries nothing is 3 less SORE (0 at least).");
        for (int sore = 1; sore <= 20; sore++) {
            SaddleFit x = Says.shop("f0;b0 1 " + sore + ";p1 0;p1 0;", "take(0, 0)  day(1)  down(0, 0)  back(0, 2) = " + sore);
            for (int day = 1; day <= 8; day++) {
                Says.ask(x, "day(1)  back(1, 2) = 0  back(0, 2) = " + Math.max(0, sore - 3 * day));
            }
        }
        Says.shop("f0;b0 1 9;b0 1 0;p2 0;", "take(0, 0)  take(1, 0)  day(1)  down(0, 0) = 0  day(5)  back(0, 2) = 9  down(1, 0)  day(1)  back(0, 2) = 6");
        Says.shop("f0;b0 1 9;b0 1 0;p2 0;p2 0;", "take(0, 0)  day(1)  share(0, 1)  down(0, 0)  take(1, 1)  share(1, 0)  back(0, 5) = 0  day(5)  back(0, 2) = 9");
        Says.shop("f0;b0 60 20;b0 20 0;p1 0;", "take(0, 0)  take(1, 0)  day(60)  day(60)  down(0, 0)  down(1, 0)  back(0, 2) = 9999  day(1)  back(0, 2) = 9996");
    }

    private static void days() {
        Says.says("DAYS (0 at first) are one more then.");
        Says.shop("f0;b3 1 0;p1 0;", "told(3) = 0  take(0, 0) = 0  day(1)  told(3) = 1  back(0, 2) = 0  day(1)  told(3) = 2  back(0, 2) = 2  day(1)  back(0, 2) = 2 "
                + "day(1)  back(0, 2) = 4  day(60)  told(3) = 64  back(0, 2) = 64  drift(1)  told(3) = 65");
        Says.shop("f0;b4 1 3;p1 0;", "take(0, 0)  day(7)  back(0, 2) = 0  day(1)  back(0, 2) = 6  day(11)  back(0, 2) = 6  day(1)  back(0, 2) = 12");
    }

    private static void galled() {
        Says.says("GALLED: SORE of 20 or more.");
        Says.shop("f0;b0 1 19;b0 1 20;p1 0;p1 0;", "take(0, 0)  take(1, 1)  told(5) = 0  day(1) = 2  back(0, 2) = 19  back(1, 2) = 20  told(5) = 2  when(0) = 1  when(1) = 0");
        Says.shop("f0;b0 1 1;p1 0;", "take(0, 0)  day(19) = 0  told(5) = 0  day(1) = 1  told(5) = 1  down(0, 0)  told(5) = 1  day(1) = 0  back(0, 2) = 17");
        Says.shop("f0;b0 1 1;p1 0;", "take(0, 0)  day(23)  down(0, 0)  day(1) = 1  back(0, 2) = 20  day(1) = 0");
    }

    private static void takenUp() {
        Says.says("TAKEN UP: a BURDEN that nobody carries by a BACK;");
        Says.shop("f0;b0 8 1;p5 0;p5 0;p5 0;", "take(0, 1) = 4  burden(0, 4) = 1  burden(0, 5) = NONE  take(0, 1) = NOT  take(0, 0) = NOT  share(0, 0)  take(0, 2) = NOT "
                + "down(0, 1)  take(0, 2) = NOT  down(0, 0)  take(0, 2) = 4");
    }

    private static void shared() {
        Says.says("SHARED: by another one, too, if one carries it (the first stays the first).");
        Says.shop("f0;b0 9 1;p1 0;p1 0;p1 0;", "share(0, 0) = NOT  take(0, 2)  share(0, 2) = NOT  share(0, 0) = 4  burden(0, 4) = 2  burden(0, 5) = 0  back(2, 3) = 5 "
                + "share(0, 1) = NOT  share(0, 0) = NOT  share(0, 2) = NOT");
        Says.shop("f0;b0 9 1;p1 0;p1 0;p1 0;", "take(0, 0)  share(0, 2)  burden(0, 4) = 0  burden(0, 5) = 2  back(0, 5) = 5  back(2, 5) = 4");
    }

    private static void setDown() {
        Says.says("SET DOWN: a BACK that carries it does no more (of two the other one carries it alone).");
        String two = "take(0, 1)  share(0, 0)  back(0, 3) = 5  back(1, 3) = 6 ";
        Says.shop("f0;b1 9 4;p1 0;p1 0;", two + "down(0, 1) = 0  burden(0, 4) = 0  burden(0, 5) = NONE  back(0, 3) = 12  back(1, 4) = 0  told(8) = 0  told(7) = 0 "
                + "down(0, 1) = NOT  share(0, 1) = 5  burden(0, 4) = 0");
        Says.shop("f0;b1 9 4;p1 0;p1 0;", two + "down(0, 0) = 0  burden(0, 4) = 1  burden(0, 5) = NONE  back(1, 3) = 12  back(0, 4) = 0  down(0, 0) = NOT "
                + "down(0, 1) = 0  burden(0, 4) = NONE  burden(0, 5) = NONE  told(7) = 1  down(0, 1) = NOT");
        Says.shop("f0;b1 9 4;b0 1 0;p1 0;p1 0;", "down(0, 0) = NOT  take(0, 0)  take(1, 0)  down(1, 0) = 12  down(0, 1) = NOT");
    }

    private static void handedOn() {
        Says.says("HANDED ON: from a BACK that carries it to another one that does not.");
        String text = "f0;b2 31 5;p10 4;p10 0;p10 9;";
        Says.shop(text, "hand(0, 0, 1) = NOT  take(0, 0)  hand(0, 1, 2) = NOT  hand(0, 0, 2) = 35  burden(0, 4) = 2  burden(0, 5) = NONE  back(0, 4) = 0  back(2, 5) = 31  hand(0, 0, 2) = NOT");
        Says.shop(text, "take(0, 0)  share(0, 1)  hand(0, 0, 1) = NOT  hand(0, 1, 0) = NOT  hand(0, 2, 0) = NOT  hand(0, 0, 2) = 20  burden(0, 4) = 2  burden(0, 5) = 1  back(2, 5) = 16  back(0, 4) = 0");
        Says.shop(text, "take(0, 0)  share(0, 1)  hand(0, 1, 2) = 19  burden(0, 4) = 0  burden(0, 5) = 2  back(2, 5) = 15  back(1, 4) = 0  told(8) = 1");
    }

    private static void stuffed() {
        Says.says("STUFFED: n pounds of FLOCK of the stock on a PAD (or pulled out, back into stock).");
        Says.shop("f5;b0 1 20;b0 1 20;p1 0;", "told(4) = 5  stuff(0, 6) = NOT  stuff(0, 5) = 5  told(4) = 0  stuff(1, 1) = NOT  stuff(1, 0) = 0  stuff(0, -2) = 3  told(4) = 2 "
                + "stuff(1, 3) = NOT  stuff(1, 2) = 2  told(4) = 0  stuff(1, -3) = NOT  stuff(1, -2) = 0  stuff(0, -3) = 0  told(4) = 5");
        Says.shop("f0;b0 1 20;p1 0;", "stuff(0, 1) = NOT  stuff(0, 0) = 0  stuff(0, -1) = NOT  told(4) = 0");
        Says.shop("f99;b0 1 20;b0 1 20;b0 1 20;b0 1 20;p1 0;", "stuff(0, 30)  stuff(1, 30)  stuff(2, 30)  told(4) = 9  stuff(3, 10) = NOT  stuff(3, 9) = 9  told(4) = 0");
    }

    private static void weighed() {
        Says.says("WEIGHED: WEIGHT is another.");
        Says.shop("f0;b0 20 0;b0 20 0;p10 0;p10 0;", "take(0, 0) = 10  weigh(0, 1) = 20  burden(0, 1) = 1  back(0, 3) = 0  weigh(0, 60) = 1  back(0, 3) = 50  weigh(0, 60) = 60 "
                + "share(0, 1)  weigh(0, 41) = 60  back(0, 5) = 21  back(1, 5) = 20  burden(1, 1) = 20");
    }
}
