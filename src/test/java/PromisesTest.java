/** The promises, sentence by sentence: what each call answers, and each refusal that it names. */
public final class PromisesTest {
    private static final String TEXT = "f20;b0 20 5;b1 31 4;b2 10 3;b3 6 0;b4 15 7;p25 4;p40 0;p10 9;";

    public static void main(String[] args) {
        newObject();
        feed();
        shopWithFault();
        shopWithout();
        fault();
        told();
        burden();
        back();
        day();
        take();
        share();
        down();
        hand();
        stuff();
        weigh();
        drift();
        undo();
        tried();
        laid();
        felt();
        book();
        seed();
        keep();
        goBack();
        Says.nothingUntested();
        Check.end("PromisesTest");
    }

    private static void newObject() {
        Says.says("SaddleFit(): No SHOP.");
        Says.fresh("told(0) = 0  told(1) = 0  told(2) = 0  told(3) = 0  told(4) = 0  told(5) = 0  told(6) = 0  told(7) = 0  told(8) = 0  told(9) = NONE  told(10) = 0  told(11) = 0  told(12) = 0 "
                + "told(13) = 0  told(14) = 0  fault() = NONE  day(1) = NOT  drift(1) = NOT  undo() = NOT  worst(1, 0) = NOT  worst(60, 1) = NOT  burden(0, 0) = UNKNOWN  back(0, 0) = UNKNOWN "
                + "take(0, 0) = UNKNOWN  fit(0) = UNKNOWN  fit(NONE) = NONE  carries(0) = 1260  tryNext() = 1  judge() = NONE  tear() = 0  seed(0) = 0  goBack(0) = NOT  goBack(1) = NOT  fair(1, 50) = 500000000");
        Says.fresh("feel(1, 0, 0) = 1  keep(0) = 1  goBack(0) = 1  shop() = 0");
    }

    private static void feed() {
        Says.says("int feed(int letter): One letter (a number 0 .. 255) comes behind THE TEXT: how many it has. OUTSIDE, FULL (240).");
        SaddleFit x = Says.fresh("feed(-1) = OUTSIDE  feed(256) = OUTSIDE  feed(0) = 1  feed(255) = 2  told(2) = 2");
        for (int i = 3; i <= 240; i++) {
            Says.ask(x, "feed(32) = " + i);
        }
        Says.ask(x, "feed(32) = FULL  feed(256) = OUTSIDE  feed(-1) = OUTSIDE  told(2) = 240  shop() = -11  feed(32) = 1");
        x = new SaddleFit();
        for (int letter = 0; letter <= 239; letter++) {
            Says.ask(x, "feed(" + (letter + 16) + ") = " + (letter + 1));
        }
        Says.ask(Check.feed(new SaddleFit(), "f12;b3 45 6;"), "shop() = 1  told(4) = 12  burden(0, 1) = 45");
    }

    private static void shopWithFault() {
        Says.says("-10 less the number of its FAULT (all else is as it was).");
        String untouched = Rich.deepButText(Rich.make());
        String[] faulty = {"x", "f100;", "f0;f0;", "f0;b0 1 0;p1 0;x", "f0;b0 1 0;p1 0"};
        int[] answers = {-11, -12, -13, -11, -11};
        int[] places = {0, 1, 3, 15, 14};
        for (int i = 0; i < faulty.length; i++) {
            SaddleFit x = withText(Rich.make(), faulty[i]);
            Says.ask(x, "shop() = " + answers[i] + "  fault() = " + places[i] + "  told(2) = 0");
            Says.so("all is as it was behind " + faulty[i], untouched.equals(Rich.deepButText(x)));
        }
        Says.ask(Check.feed(new SaddleFit(), "x"), "seed(5)  feel(1, 0, 0)  shop() = -11  day(1) = NOT  told(11) = 1  seed(5) = 5");
    }

    /** Of the text that it has, nothing but a fault comes. */
    private static SaddleFit withText(SaddleFit x, String text) {
        x.feed('x');
        Says.ask(x, "shop()");
        return Check.feed(x, text);
    }

    private static void shopWithout() {
        Says.says("int shop(): THE TEXT (it is empty then, with a FAULT, too) becomes THE SHOP");
        Says.ask(Check.feed(new SaddleFit(), "f3;p4 5;"), "told(2) = 8  shop() = 0  told(2) = 0  told(1) = 1  told(4) = 3  shop() = 0  told(1) = 0");
        Says.ask(Check.feed(new SaddleFit(), "f3;p4 5"), "told(2) = 7  shop() = -11  told(2) = 0  shop() = 0  fault() = NONE");
        Says.says("(DAY 0, WEIGHTS, stock as told, nobody carries anything, no PADS, nobody SORE; nothing FELT, no BOOK; IMAGES, what could be undone are gone; THE SEED stays):");
        for (String text : new String[] {TEXT, "f0;", "f1;p1 1;p2 2;", "f1;b1 1 1;", "f99;b4 60 20;b4 60 20;b4 60 20;b4 60 20;b4 60 20;b4 60 20;p9 9;p9 9;p9 9;p9 9;p9 9;", "", "  "}) {
            SaddleFit fresh = Says.ask(Check.feed(new SaddleFit(), text), "shop()  seed(78)");
            SaddleFit used = withText(Rich.make(), text);
            Says.so("shop() answers the same", used.shop() == fresh.told(0));
            Says.so("of what was nothing is left behind [" + text + "]", Rich.deep(fresh).equals(Rich.deep(used)));
        }
        Says.ask(Rich.full(), "shop() = 1  told(3) = 0  told(11) = 0  told(12) = 0  told(13) = 0  goBack(0) = NOT  goBack(1) = NOT  undo() = NOT  seed(0) = 78");
        Says.says("how many BURDENS;");
        String one = "b0 1 0;";
        for (int burdens = 0; burdens <= 6; burdens++) {
            Says.ask(Check.feed(new SaddleFit(), "f0;p1 0;" + one.repeat(burdens)), "shop() = " + burdens);
        }
    }

    private static void fault() {
        Says.says("int fault(): The letter of the FAULT of the latest shop(); NONE.");
        SaddleFit x = Says.fresh("fault() = NONE");
        Check.feed(x, "f0;q");
        Says.ask(x, "fault() = NONE  shop() = -11  fault() = 3  fault() = 3");
        Check.feed(x, "f0;f");
        Says.ask(x, "fault() = 3  shop() = -13");
        Check.feed(x, "f100;");
        Says.ask(x, "shop() = -12  fault() = 1  feed(32)  fault() = 1  day(1) = NOT  fault() = 1");
        Check.feed(x, "f0;");
        Says.ask(x, "shop() = 0  fault() = NONE");
        Check.feed(x, "f");
        Says.ask(x, "shop() = -11  fault() = 1  day(1) = 0  drift(1) = 0  undo()  keep(0)  goBack(0)  feel(1, 0, 0)  tear()  seed(5)  fault() = 1  shop() = 0  fault() = NONE");
    }

    private static void told() {
        Says.says("int told(int what): 0 BURDENS, 1 BACKS, 2 letters of THE TEXT, 3 DAYS, 4 FLOCK in stock,");
        Says.ask(Rich.make(), "told(0) = 5  told(1) = 3  told(2) = 10  told(3) = 9  told(4) = 12");
        Says.says("5 who is GALLED (a SET of BACKS), 6 GALLING of all today, 7 BURDENS that nobody carries, 8 that are SHARED (SETS of BURDENS), 9 MOST,");
        // Back 0: 51 - 25 and 0 + 1; back 1: 3; back 2: 3 + 9.
        Says.ask(Rich.make(), "told(5) = 5  told(6) = 42  told(7) = 24  told(8) = 4  told(9) = 0");
        Says.says("10 1 it is AUGUST, 0 not, 11 what is FELT, 12 entries of THE BOOK, 13 how many can be undone, 14 STUFF for all (NONE). OUTSIDE.");
        Says.ask(Rich.make(), "told(10) = 0  told(11) = 2  told(12) = 3  told(13) = 6  told(14) = NONE  weigh(1, 5)  told(14) = 4  day(10)  told(10) = 1  told(15) = OUTSIDE  told(-1) = OUTSIDE");
    }

    private static void burden() {
        Says.says("int burden(int g, int what): Of a BURDEN: what = 0 KIND, 1 WEIGHT, 2 EDGE, 3 its PAD, 4 the first BACK that carries it, 5 the other (NONE). UNKNOWN, OUTSIDE.");
        Says.ask(Rich.make(), "burden(0, 0) = 0  burden(0, 1) = 20  burden(0, 2) = 5  burden(0, 3) = 5  burden(0, 4) = 0  burden(0, 5) = NONE "
                + "burden(2, 0) = 2  burden(2, 1) = 12  burden(2, 2) = 3  burden(2, 3) = 0  burden(2, 4) = 2  burden(2, 5) = 1  burden(4, 4) = NONE  burden(4, 5) = NONE "
                + "burden(5, 0) = UNKNOWN  burden(-1, 0) = UNKNOWN  burden(0, 6) = OUTSIDE  burden(0, -1) = OUTSIDE  burden(5, 6) = UNKNOWN");
    }

    private static void back() {
        Says.says("int back(int p, int what): Of a BACK: what = 0 STRENGTH, 1 SPINE, 2 SORE, 3 GALLING today, 4 what it carries (a SET of BURDENS), 5 all PARTS, 6 STUFF for it, 7 RING. UNKNOWN, OUTSIDE.");
        Says.ask(Rich.make(), "back(0, 0) = 25  back(0, 1) = 4  back(0, 3) = 27  back(0, 4) = 3  back(0, 5) = 51  back(0, 6) = NONE  back(0, 7) = 1 "
                + "back(1, 0) = 40  back(1, 1) = 0  back(1, 2) = 3  back(1, 3) = 3  back(1, 4) = 4  back(1, 5) = 6  back(1, 6) = 3  back(1, 7) = 6 "
                + "back(2, 0) = 10  back(2, 1) = 9  back(2, 3) = 12  back(2, 4) = 4  back(2, 5) = 6  back(2, 6) = 3  back(2, 7) = 6 "
                + "back(3, 0) = UNKNOWN  back(-1, 0) = UNKNOWN  back(0, 8) = OUTSIDE  back(0, -1) = OUTSIDE  back(3, 8) = UNKNOWN");
    }

    private static void day() {
        Says.says("int day(int n): n DAYS (1 .. 60): who is GALLED. OUTSIDE, NOT: no SHOP; FULL: DAYS are above 9000.");
        Says.fresh("day(0) = OUTSIDE  day(61) = OUTSIDE  day(1) = NOT  day(60) = NOT");
        Says.shop("f0;b0 1 1;b0 1 20;p1 0;p1 0;", "take(0, 0)  day(0) = OUTSIDE  day(61) = OUTSIDE  day(-1) = OUTSIDE  told(3) = 0  day(1) = 0  told(3) = 1  take(1, 1)  day(1) = 2  day(60) = 3  told(3) = 62");
        SaddleFit x = Says.times(149, Check.shop("f0;b3 1 0;p1 0;"), "day(60)");
        Says.ask(x, "day(59)  told(3) = 8999  day(1) = 0  told(3) = 9000  day(1) = 0  told(3) = 9001  day(1) = FULL  day(60) = FULL  day(0) = OUTSIDE  day(61) = OUTSIDE  drift(1) = FULL "
                + "undo()  told(3) = 9000  day(60) = 0  told(3) = 9060  day(1) = FULL");
    }

    private static void take() {
        Says.says("int take(int g, int p): TAKEN UP: GALLING of the BACK. UNKNOWN, NOT: somebody carries it.");
        Says.shop("f0;b2 10 3;b0 10 0;p5 4;p10 0;", "take(0, 0) = 12  take(1, 1) = 0  take(0, 1) = NOT  take(0, 0) = NOT  take(2, 0) = UNKNOWN  take(-1, 0) = UNKNOWN  take(0, 2) = UNKNOWN  take(0, -1) = UNKNOWN "
                + "down(1, 1)  take(1, 0) = 22");
    }

    private static void share() {
        Says.says("int share(int g, int p): SHARED by another BACK, too: GALLING of that. UNKNOWN, NOT: not one alone carries it, that one does.");
        Says.shop("f0;b1 31 5;b0 10 0;p10 4;p10 0;p10 0;", "share(0, 0) = NOT  take(0, 2)  share(0, 2) = NOT  share(0, 0) = 7  share(0, 1) = NOT  share(0, 0) = NOT  share(0, 2) = NOT "
                + "share(2, 0) = UNKNOWN  share(-1, 0) = UNKNOWN  share(0, 3) = UNKNOWN  share(0, -1) = UNKNOWN");
    }

    private static void down() {
        Says.says("int down(int g, int p): SET DOWN: GALLING of the BACK. UNKNOWN, NOT: it does not carry it.");
        Says.shop("f0;b0 31 5;b0 12 1;p10 4;p10 0;p10 0;", "down(0, 0) = NOT  take(0, 0)  take(1, 0)  share(0, 1)  down(0, 2) = NOT  down(1, 1) = NOT  down(2, 0) = UNKNOWN  down(-1, 0) = UNKNOWN "
                + "down(0, 3) = UNKNOWN  down(0, -1) = UNKNOWN  down(0, 0) = 3  down(0, 0) = NOT  down(0, 1) = 0  down(0, 1) = NOT");
    }

    private static void hand() {
        Says.says("int hand(int g, int p, int q): HANDED ON from p to q: GALLING of q. UNKNOWN, NOT: p does not carry it, q does.");
        Says.shop("f0;b2 31 5;p10 4;p10 0;p10 9;", "hand(0, 0, 1) = NOT  take(0, 0)  hand(0, 0, 2) = 35  hand(0, 0, 1) = NOT  hand(0, 2, 2) = UNKNOWN  hand(0, 0, 0) = UNKNOWN  hand(1, 2, 1) = UNKNOWN "
                + "hand(-1, 2, 1) = UNKNOWN  hand(0, 3, 1) = UNKNOWN  hand(0, -1, 1) = UNKNOWN  hand(0, 2, 3) = UNKNOWN  hand(0, 2, -1) = UNKNOWN  share(0, 1)  hand(0, 2, 1) = NOT  hand(0, 1, 2) = NOT "
                + "hand(0, 0, 1) = NOT  hand(0, 2, 0) = 15");
    }

    private static void stuff() {
        Says.says("int stuff(int g, int n): STUFFED (n -30 .. 30): its PAD. UNKNOWN, OUTSIDE, NOT: the PAD would be below 0, above 30, or the stock below 0.");
        Says.shop("f35;b0 1 20;b0 1 5;p1 0;", "stuff(0, 31) = OUTSIDE  stuff(0, -31) = OUTSIDE  stuff(0, -1) = NOT  stuff(0, 30) = 30  stuff(0, 1) = NOT  stuff(1, 6) = NOT  stuff(1, 5) = 5  stuff(1, 1) = NOT "
                + "stuff(1, -6) = NOT  stuff(0, -30) = 0  stuff(0, -30) = NOT  stuff(1, 26) = NOT  stuff(1, 25) = 30  stuff(2, 1) = UNKNOWN  stuff(-1, 1) = UNKNOWN  stuff(2, 31) = UNKNOWN  told(4) = 5");
    }

    private static void weigh() {
        Says.says("int weigh(int g, int w): WEIGHED (1 .. 60): what WEIGHT was. UNKNOWN, OUTSIDE.");
        Says.shop("f0;b0 20 0;b0 7 0;p10 0;", "weigh(0, 1) = 20  weigh(0, 60) = 1  weigh(0, 0) = OUTSIDE  weigh(0, 61) = OUTSIDE  weigh(0, 60) = 60  weigh(1, 8) = 7  weigh(2, 5) = UNKNOWN  weigh(-1, 5) = UNKNOWN "
                + "weigh(2, 61) = UNKNOWN  burden(0, 1) = 60  burden(1, 1) = 8");
    }

    private static void drift() {
        Says.says("int drift(int n): n DAYS (1 .. 60) BY DRAWS: who is GALLED. OUTSIDE, NOT: no SHOP; FULL: DAYS are above 9000.");
        Says.fresh("drift(0) = OUTSIDE  drift(61) = OUTSIDE  drift(1) = NOT  drift(60) = NOT");
        Says.shop("f0;b0 60 20;b1 30 9;p5 0;p9 1;", "drift(0) = OUTSIDE  drift(61) = OUTSIDE  drift(-1) = OUTSIDE  seed(0) = 0  drift(1) = 1  told(3) = 1  told(5) = 1  back(0, 2) = 75");
        SaddleFit x = Says.times(149, Check.shop("f0;b3 1 0;"), "drift(60)");
        Says.ask(x, "drift(59)  told(3) = 8999  drift(1) = 0  told(3) = 9000  drift(1) = 0  told(3) = 9001  drift(1) = FULL  drift(60) = FULL  drift(0) = OUTSIDE  day(1) = FULL "
                + "undo()  drift(60) = 0  told(3) = 9060  drift(1) = FULL");
    }

    private static void undo() {
        Says.says("int undo(): The latest is undone: how many more can be. NOT: none.");
        Says.fresh("undo() = NOT");
        Says.shop("f0;b0 9 0;p9 0;", "undo() = NOT  take(0, 0)  weigh(0, 5)  day(3)  undo() = 2  told(3) = 0  burden(0, 1) = 5  undo() = 1  burden(0, 1) = 9  burden(0, 4) = 0  undo() = 0  burden(0, 4) = NONE  undo() = NOT "
                + "told(13) = 0  day(2)  undo() = 0  told(3) = 0");
    }

    private static void tried() {
        Says.says("int sore(int p, int n): SORE. UNKNOWN, OUTSIDE.");
        Says.shop("f0;b0 1 3;p1 0;", "take(0, 0)  sore(0, 0) = 0  sore(0, 1) = 3  sore(0, 200) = 600  sore(0, 201) = OUTSIDE  sore(0, -1) = OUTSIDE  sore(1, 0) = UNKNOWN  sore(-1, 0) = UNKNOWN  sore(1, 201) = UNKNOWN");
        Says.says("int when(int p): WHEN; NONE. UNKNOWN.");
        Says.shop("f0;b0 1 3;p1 0;p1 0;", "when(0) = NONE  take(0, 0)  when(0) = 7  when(1) = NONE  when(2) = UNKNOWN  when(-1) = UNKNOWN");
        Says.says("int worst(int n, int what): WORST: what = 0 behind how many, 1 how much. OUTSIDE, NOT: no SHOP.");
        Says.fresh("worst(0, 0) = OUTSIDE  worst(61, 0) = OUTSIDE  worst(1, -1) = OUTSIDE  worst(1, 2) = OUTSIDE  worst(1, 0) = NOT  worst(60, 1) = NOT");
        Says.shop("f0;b3 1 3;p1 0;", "take(0, 0)  worst(1, 0) = 0  worst(1, 1) = 3  worst(60, 0) = 1  worst(60, 1) = 5  worst(0, 0) = OUTSIDE  worst(61, 0) = OUTSIDE  worst(1, -1) = OUTSIDE  worst(1, 2) = OUTSIDE");
    }

    private static void laid() {
        Says.says("int fit(int g): FIT: g = NONE how much, else the BACK of a BURDEN; NONE. UNKNOWN.");
        Says.shop("f0;b0 9 2;p1 0;p5 0;", "fit(NONE) = 6  fit(0) = 1  fit(1) = UNKNOWN  fit(-2) = UNKNOWN");
        Says.shop("f0;b0 9 2;", "fit(NONE) = NONE  fit(0) = NONE  fit(1) = UNKNOWN");
        Says.says("int byTwo(int g, int what): BY TWO: what = 0 how much, 1 the two; NONE. UNKNOWN, OUTSIDE.");
        Says.shop("f0;b0 9 2;p1 0;p5 0;p4 0;", "byTwo(0, 0) = 4  byTwo(0, 1) = 12  byTwo(0, 2) = OUTSIDE  byTwo(0, -1) = OUTSIDE  byTwo(1, 0) = UNKNOWN  byTwo(-1, 0) = UNKNOWN  byTwo(1, 2) = UNKNOWN");
        Says.shop("f0;b0 9 2;p1 0;", "byTwo(0, 0) = NONE  byTwo(0, 1) = NONE  byTwo(0, 2) = OUTSIDE  byTwo(1, 0) = UNKNOWN");
        Says.says("int order(int p, int what): ORDER: what = 0 how SORE, 1 the figures. UNKNOWN, OUTSIDE.");
        Says.shop("f0;b0 1 9;b0 1 8;p9 0;", "take(0, 0)  take(1, 0)  order(0, 0) = 5  order(0, 1) = 12  order(0, 2) = OUTSIDE  order(0, -1) = OUTSIDE  order(1, 0) = UNKNOWN  order(-1, 0) = UNKNOWN  order(1, 2) = UNKNOWN");
        Says.says("int could(int g): COULD. UNKNOWN, NOT: somebody carries it.");
        Says.shop("f0;b0 9 0;p9 0;p8 0;", "could(0) = 1  could(1) = UNKNOWN  could(-1) = UNKNOWN  take(0, 1)  could(0) = NOT  share(0, 0)  could(0) = NOT  down(0, 0)  could(0) = NOT  down(0, 1)  could(0) = 1");
        Says.says("int shareOf(int g, int p, int q): SHARES: what p, the first, would bear. UNKNOWN.");
        Says.shop("f0;b0 31 0;p25 0;p40 0;", "shareOf(0, 0, 1) = 12  shareOf(0, 1, 0) = 20  shareOf(0, 0, 0) = UNKNOWN  shareOf(1, 0, 1) = UNKNOWN  shareOf(-1, 0, 1) = UNKNOWN  shareOf(0, 2, 1) = UNKNOWN "
                + "shareOf(0, -1, 1) = UNKNOWN  shareOf(0, 0, 2) = UNKNOWN  shareOf(0, 0, -1) = UNKNOWN");
        Says.says("int fair(int n, int q): FAIR. OUTSIDE.");
        Says.fresh("fair(0, 0) = 1000000000  fair(60, 100) = 1000000000  fair(3, 90) = 729000000  fair(-1, 0) = OUTSIDE  fair(61, 100) = OUTSIDE  fair(0, -1) = OUTSIDE  fair(60, 101) = OUTSIDE");
    }

    private static void felt() {
        Says.says("int feel(int s, int f, int v): FELT: how much. OUTSIDE, FULL (6).");
        Says.fresh("feel(1, 0, 0) = 1  feel(99, 30, 99) = 2  feel(0, 0, 0) = OUTSIDE  feel(100, 0, 0) = OUTSIDE  feel(1, -1, 0) = OUTSIDE  feel(1, 31, 0) = OUTSIDE  feel(1, 0, -1) = OUTSIDE  feel(1, 0, 100) = OUTSIDE "
                + "feel(1, 0, 0) = 3  feel(1, 0, 0) = 4  feel(1, 0, 0) = 5  feel(1, 0, 0) = 6  feel(1, 0, 0) = FULL  feel(0, 0, 0) = OUTSIDE  told(11) = 6");
        Says.says("int carries(int what): CARRIES: what = 0 how many, 1 the least WEIGHT, 2 the least EDGE with it; NONE. OUTSIDE.");
        Says.fresh("feel(20, 0, 15)  feel(10, 5, 20)  carries(0) = 11  carries(1) = 20  carries(2) = 15  carries(3) = OUTSIDE  carries(-1) = OUTSIDE  feel(1, 0, 99)  carries(0) = 0  carries(1) = NONE  carries(2) = NONE  carries(3) = OUTSIDE");
        Says.says("int tryNext(): TRY; NONE.");
        Says.fresh("tryNext() = 1  feel(20, 0, 15)  feel(10, 5, 20)  tryNext() = 30  feel(99, 0, 5)  tryNext() = NONE  feel(99, 0, 6)  tryNext() = NONE");
    }

    private static void book() {
        Says.says("int write(int p, int sore): An entry behind THE BOOK (0 .. 9999): how many. UNKNOWN, OUTSIDE, FULL (15).");
        Says.fresh("write(0, 0) = UNKNOWN  write(0, 10000) = UNKNOWN");
        SaddleFit x = Says.shop("f0;p1 0;p1 0;", "write(0, -1) = OUTSIDE  write(0, 10000) = OUTSIDE  write(2, 0) = UNKNOWN  write(-1, 0) = UNKNOWN  write(2, 10000) = UNKNOWN  told(12) = 0");
        for (int i = 1; i <= 15; i++) {
            Says.ask(x, "write(" + i % 2 + ", " + (i < 3 ? 0 : 9999) + ") = " + i + "  told(12) = " + i);
        }
        Says.ask(x, "write(0, 0) = FULL  write(0, 10000) = OUTSIDE  write(2, 0) = UNKNOWN  told(12) = 15  judge() = 2");
        Says.says("int tear(): Nothing FELT, THE BOOK is empty: how much both had.");
        Says.ask(x, "feel(1, 0, 0)  feel(1, 0, 1)  tear() = 17  told(11) = 0  told(12) = 0  carries(0) = 1260  judge() = NONE  tear() = 0  write(1, 0) = 1  tear() = 1  feel(1, 0, 0) = 1  tear() = 1");
        Says.fresh("tear() = 0  feel(1, 0, 0)  tear() = 1");
        Says.says("int judge(): WRONG; NONE.");
        Says.fresh("judge() = NONE");
        Says.shop("f0;b0 1 5;p1 0;p1 0;", "judge() = NONE  write(0, 0)  write(1, 0)  judge() = NONE  write(1, 1)  judge() = 2  write(0, 1)  judge() = 2  take(0, 1)  day(1)  judge() = 1  undo()  judge() = 2");
    }

    private static void seed() {
        Says.says("int seed(int v): THE SEED becomes v (0 .. 2147483647): what it was. OUTSIDE.");
        Says.fresh("seed(5) = 0  seed(2147483647) = 5  seed(-1) = OUTSIDE  seed(MIN) = OUTSIDE  seed(0) = 2147483647  seed(-1) = OUTSIDE  seed(0) = 0");
    }

    private static void keep() {
        Says.says("int keep(int i): IMAGE i becomes what is so (nothing can be undone then): 1. UNKNOWN.");
        Says.shop("f0;b0 9 0;p9 0;", "day(1)  keep(2) = UNKNOWN  keep(-1) = UNKNOWN  told(13) = 1  keep(0) = 1  told(13) = 0  undo() = NOT  goBack(1) = NOT  day(1)  keep(0) = 1  undo() = NOT "
                + "day(1)  goBack(0)  told(3) = 2  day(5)  keep(1) = 1  goBack(0)  told(3) = 2  goBack(1)  told(3) = 7  weigh(0, 5)  undo() = 0  told(3) = 7");
        Says.fresh("keep(0) = 1  keep(1) = 1  seed(6)  goBack(0) = 1  seed(0) = 0");
    }

    private static void goBack() {
        Says.says("int goBack(int i): What is so becomes IMAGE i (nothing can be undone then): 1. UNKNOWN, NOT: it was not kept.");
        Says.shop("f0;b0 9 0;p9 0;", "goBack(0) = NOT  goBack(1) = NOT  goBack(2) = UNKNOWN  goBack(-1) = UNKNOWN  keep(1)  goBack(0) = NOT  day(4)  told(13) = 1  goBack(0) = NOT  goBack(2) = UNKNOWN  told(13) = 1 "
                + "goBack(1) = 1  told(3) = 0  told(13) = 0  undo() = NOT  day(1)  goBack(1) = 1  told(3) = 0  undo() = NOT  day(2)  undo() = 0  told(3) = 0");
        Says.fresh("goBack(0) = NOT  keep(0)  goBack(0) = 1  goBack(1) = NOT  shop() = 0  goBack(0) = NOT");
    }
}
