/** The document's terms, sentence by sentence: numbers, sets, the refusals and their order. */
public final class TermsTest {
    private static final String UNKNOWN_OF_RICH =
            "burden(-1, 0) burden(5, 0) burden(MIN, 0) burden(MAX, 0) back(-1, 0) back(3, 0) back(MIN, 0) back(MAX, 0) take(-1, 0) take(5, 0) take(3, -1) take(3, 3) "
            + "share(-1, 1) share(5, 1) share(0, -1) share(0, 3) down(-1, 0) down(5, 0) down(0, -1) down(0, 3) hand(-1, 0, 1) hand(5, 0, 1) hand(0, -1, 1) hand(0, 3, 1) "
            + "hand(0, 0, -1) hand(0, 0, 3) hand(0, 0, 0) hand(2, 1, 1) stuff(-1, 1) stuff(5, 1) weigh(-1, 5) weigh(5, 5) sore(-1, 0) sore(3, 0) when(-1) when(3) when(MIN) when(MAX) "
            + "fit(-2) fit(5) fit(MIN) fit(MAX) byTwo(-1, 0) byTwo(5, 0) order(-1, 0) order(3, 0) could(-1) could(5) could(MIN) could(MAX) shareOf(-1, 0, 1) shareOf(5, 0, 1) "
            + "shareOf(0, -1, 1) shareOf(0, 3, 1) shareOf(0, 0, -1) shareOf(0, 0, 3) shareOf(0, 1, 1) shareOf(0, 0, 0) write(-1, 0) write(3, 0) write(MIN, 0) write(MAX, 0) "
            + "keep(-1) keep(2) keep(MIN) keep(MAX) goBack(-1) goBack(2) goBack(MIN) goBack(MAX)";
    private static final String OUTSIDE_OF_RICH =
            "feed(-1) feed(256) feed(MIN) feed(MAX) told(-1) told(15) told(MIN) told(MAX) burden(0, -1) burden(0, 6) burden(0, MIN) burden(0, MAX) back(0, -1) back(0, 8) back(0, MIN) "
            + "back(0, MAX) day(0) day(61) day(-1) day(MIN) day(MAX) stuff(3, 31) stuff(3, -31) stuff(3, MIN) stuff(3, MAX) weigh(0, 0) weigh(0, 61) weigh(0, -1) weigh(0, MIN) weigh(0, MAX) "
            + "drift(0) drift(61) drift(-1) drift(MIN) drift(MAX) sore(0, -1) sore(0, 201) sore(0, MIN) sore(0, MAX) worst(0, 0) worst(61, 0) worst(-1, 0) worst(MIN, 0) worst(MAX, 0) "
            + "worst(1, -1) worst(1, 2) worst(1, MIN) worst(1, MAX) byTwo(0, -1) byTwo(0, 2) byTwo(0, MIN) byTwo(0, MAX) order(0, -1) order(0, 2) order(0, MIN) order(0, MAX) "
            + "fair(-1, 50) fair(61, 50) fair(MIN, 50) fair(MAX, 50) fair(1, -1) fair(1, 101) fair(1, MIN) fair(1, MAX) feel(0, 0, 0) feel(100, 0, 0) feel(MIN, 0, 0) feel(MAX, 0, 0) "
            + "feel(1, -1, 0) feel(1, 31, 0) feel(1, MIN, 0) feel(1, MAX, 0) feel(1, 0, -1) feel(1, 0, 100) feel(1, 0, MIN) feel(1, 0, MAX) carries(-1) carries(3) carries(MIN) carries(MAX) "
            + "write(0, -1) write(0, 10000) write(0, MIN) write(0, MAX) seed(-1) seed(MIN)";
    private static final String NOT_OF_RICH =
            "take(0, 0) take(0, 1) take(2, 0) take(2, 1) take(2, 2) share(3, 0) share(0, 0) share(2, 0) share(2, 1) share(2, 2) down(0, 1) down(3, 0) down(2, 0) "
            + "hand(0, 1, 2) hand(3, 0, 1) hand(2, 2, 1) hand(2, 1, 2) hand(2, 0, 1) stuff(0, -6) stuff(0, 26) stuff(3, -1) stuff(3, 13) stuff(3, 30) could(0) could(1) could(2)";

    public static void main(String[] args) {
        calls();
        cuts();
        numbered();
        sets();
        none();
        unknown();
        outside();
        notNow();
        full();
        inThisOrder();
        farBelow();
        changesNothing();
        billion();
        Says.nothingUntested();
        Check.end("TermsTest");
    }

    /** The last call that is promised, the 512th, answers as any other. */
    private static void calls() {
        Says.says("An object is used for at most 512 calls after it has been made; what later calls answer is free.");
        String text = "f9;b0 9 4;b3 8 2;p9 0;p5 1;";
        SaddleFit x = Check.shop(text);
        int last = 0;
        for (int call = text.length() + 2; call <= 506; call++) {
            last = x.weigh(0, call % 60 + 1);
        }
        Says.so("the 506th call", last == 505 % 60 + 1);
        Says.ask(x, "take(0, 1) = 26  day(1) = 2  told(13) = 16  undo() = 15  burden(0, 1) = 27  fit(NONE) = 27");
    }

    private static void cuts() {
        Says.says("All numbers are whole; / cuts towards 0.");
        Says.fresh("fair(5, 1) = 0  fair(2, 99) = 980100000  fair(5, 99) = 950990049  fair(6, 99) = 941480148");
        Says.shop("f0;b1 31 5;p25 0;p40 0;", "shareOf(0, 0, 1) = 12  shareOf(0, 1, 0) = 20  take(0, 0)  share(0, 1) = 2  back(1, 5) = 15");
    }

    private static void numbered() {
        Says.says("What has a number has it from 0 on, as it comes.");
        Says.shop("f0;p7 1;b3 5 6;p8 2;b1 9 2;p9 3;", "burden(0, 0) = 3  burden(1, 0) = 1  burden(2, 0) = UNKNOWN  back(0, 0) = 7  back(1, 0) = 8  back(2, 0) = 9  back(3, 0) = UNKNOWN "
                + "write(1, 0)  write(0, 5)  write(0, 6)  judge() = 1  tear()  write(1, 1)  judge() = 0  keep(0) = 1  keep(1) = 1  keep(2) = UNKNOWN  told(3) = 0");
    }

    private static void sets() {
        Says.says("A SET is a whole number, bit k for k.");
        Says.shop("f0;b0 9 9;b0 9 9;b0 9 9;b0 9 9;b0 9 9;b0 9 0;p1 0;p1 0;p1 0;p1 0;p9 0;", "told(7) = 63  could(5) = 16  take(5, 0)  told(7) = 31  back(0, 4) = 32  take(0, 4)  take(2, 4) "
                + "told(7) = 26  back(4, 4) = 5  day(1) = 16  share(5, 3)  share(2, 1)  told(8) = 36  back(3, 7) = 9  back(1, 7) = 18  day(2) = 18  day(1) = 19  day(3) = 19  day(1) = 27");
    }

    private static void none() {
        Says.says("NONE is -1.");
        Says.so("NONE", SaddleFit.NONE == -1);
        Says.fresh("fault() = -1  fit(-1) = -1  told(9) = -1  judge() = -1");
    }

    private static void each(SaddleFit x, String calls, String want) {
        for (String call : calls.split("(?<=\\)) ")) {
            Says.ask(x, call + " = " + want);
        }
    }

    private static void unknown() {
        Says.says("REFUSALS, of several the first in this order: UNKNOWN (a BURDEN, BACK, IMAGE that there is not; bits of such; one twice, where two are asked),");
        each(Rich.make(), UNKNOWN_OF_RICH, "UNKNOWN");
        each(Rich.bare(), "burden(0, 0) back(0, 0) take(0, 0) share(0, 0) down(0, 0) hand(0, 0, 1) stuff(0, 1) weigh(0, 1) sore(0, 0) when(0) fit(0) byTwo(0, 0) order(0, 0) could(0) "
                + "shareOf(0, 0, 1) write(0, 0) keep(2) goBack(2)", "UNKNOWN");
        each(Check.shop("f0;b0 1 0;"), "back(0, 0) take(0, 0) share(0, 0) down(0, 0) hand(0, 0, 1) sore(0, 0) when(0) order(0, 0) shareOf(0, 0, 1) write(0, 0)", "UNKNOWN");
        each(Check.shop("f0;p1 0;"), "burden(0, 0) take(0, 0) share(0, 0) down(0, 0) hand(0, 0, 1) stuff(0, 1) weigh(0, 1) fit(0) byTwo(0, 0) could(0) shareOf(0, 0, 1)", "UNKNOWN");
    }

    private static void outside() {
        Says.says("OUTSIDE (another number out of its bounds),");
        each(Rich.make(), OUTSIDE_OF_RICH, "OUTSIDE");
        each(Rich.bare(), "feed(-1) feed(256) told(-1) told(15) day(0) day(61) drift(0) drift(61) worst(0, 0) worst(61, 0) worst(1, -1) worst(1, 2) fair(-1, 0) fair(61, 0) fair(0, -1) "
                + "fair(0, 101) feel(0, 0, 0) carries(3) seed(-1)", "OUTSIDE");
    }

    private static void notNow() {
        Says.says("NOT (not now, as told),");
        each(Rich.make(), NOT_OF_RICH, "NOT");
        each(Rich.bare(), "day(1) day(60) drift(1) drift(60) undo() worst(1, 0) worst(60, 1) goBack(0)", "NOT");
        each(Check.shop("f0;b0 1 0;p1 0;"), "undo() goBack(0) goBack(1)", "NOT");
    }

    private static void full() {
        Says.says("FULL.");
        each(Rich.full(), "feed(0) feed(32) feed(255) day(1) day(60) drift(1) drift(60) feel(1, 0, 0) feel(99, 30, 99) write(0, 0) write(2, 9999)", "FULL");
    }

    /** Calls by which two refusals or three are due at once; quoted with UNKNOWN, above. */
    private static void inThisOrder() {
        each(Rich.make(), "burden(5, 6) burden(-1, -1) back(3, 8) back(-1, -1) take(0, 3) take(5, 3) share(3, 3) share(2, 3) share(5, 0) down(3, 3) down(0, 3) hand(0, 1, 3) hand(0, 1, 1) "
                + "hand(3, 0, 0) hand(5, 1, 2) stuff(5, 31) stuff(5, -31) stuff(-1, 30) weigh(5, 0) weigh(-1, 61) sore(3, 201) sore(-1, -1) byTwo(5, 2) byTwo(-1, -1) order(3, 2) order(-1, -1) "
                + "write(3, 10000) write(-1, -1)", "UNKNOWN");
        each(Rich.make(), "stuff(0, -31) stuff(0, 31) stuff(3, 31)", "OUTSIDE");
        each(Rich.full(), "write(3, 0) write(3, 10000) write(-1, -1)", "UNKNOWN");
        each(Rich.full(), "feed(-1) feed(256) day(0) day(61) drift(0) drift(61) feel(0, 0, 0) feel(1, 31, 0) feel(1, 0, 100) write(0, 10000) write(0, -1)", "OUTSIDE");
        each(Check.shop("f0;b0 1 0;"), "byTwo(1, 0) fit(1) fit(-2) hand(0, 0, 0)", "UNKNOWN");
        each(Check.shop("f0;b0 1 0;p1 0;"), "byTwo(0, 2) byTwo(0, -1)", "OUTSIDE");
    }

    private static void farBelow() {
        Says.says("They are far below all that is counted: -1000000001 and on.");
        Says.so("the constants", SaddleFit.UNKNOWN == -1000000001 && SaddleFit.OUTSIDE == -1000000002 && SaddleFit.NOT == -1000000003 && SaddleFit.FULL == -1000000004);
        Says.fresh("burden(0, 0) = -1000000001  told(15) = -1000000002  undo() = -1000000003");
        Says.ask(Rich.full(), "day(1) = -1000000004");
    }

    private static void changesNothing() {
        Says.says("What is refused changes nothing.");
        unchangedBy("of make()", Rich.deep(Rich.make()), UNKNOWN_OF_RICH + " " + OUTSIDE_OF_RICH + " " + NOT_OF_RICH);
        String full = Rich.deep(Rich.full());
        for (String call : "feed(32) feed(256) day(1) day(61) drift(60) drift(0) feel(1, 0, 0) feel(0, 0, 0) write(0, 0) write(3, 0) write(0, 10000)".split("(?<=\\)) ")) {
            SaddleFit x = Rich.full();
            Says.so(call + " is refused", refused(x, call));
            Says.so(call + " of full() changes nothing", full.equals(Rich.deep(x)));
        }
        String bare = Rich.deep(Rich.bare());
        for (String call : ("day(1) drift(1) undo() worst(1, 0) goBack(0) keep(2) take(0, 0) share(0, 0) down(0, 0) hand(0, 0, 1) stuff(0, 1) weigh(0, 1) write(0, 0) seed(-1) feed(256) feel(0, 0, 0)")
                .split("(?<=\\)) ")) {
            SaddleFit x = Rich.bare();
            Says.so(call + " is refused", refused(x, call));
            Says.so(call + " of bare() changes nothing", bare.equals(Rich.deep(x)));
        }
    }

    private static void unchangedBy(String whose, String untouched, String calls) {
        for (String call : calls.split("(?<=\\)) ")) {
            SaddleFit x = Rich.make();
            Says.so(call + " is refused", refused(x, call));
            Says.so(call + " " + whose + " changes nothing", untouched.equals(Rich.deep(x)));
        }
    }

    private static boolean refused(SaddleFit x, String call) {
        int answer = Says.answer(x, call);
        return answer <= SaddleFit.UNKNOWN && answer >= SaddleFit.FULL;
    }

    private static void billion() {
        Says.says("BILLION is 1000000000.");
        Says.fresh("fair(0, 0) = 1000000000  fair(0, 100) = 1000000000  fair(60, 100) = 1000000000");
    }
}
