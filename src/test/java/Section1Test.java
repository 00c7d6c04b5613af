/** Section 1 of the document, sentence by sentence: the text and its faults. */
public final class Section1Test {
    private static final String SIX = "f0;b0 1 0;b0 1 0;b0 1 0;b0 1 0;b0 1 0;b0 1 0;", FIVE = "f0;p1 0;p1 0;p1 0;p1 0;p1 0;";

    public static void main(String[] args) {
        letters();
        flock();
        burdens();
        backs();
        numbers();
        words();
        blanks();
        sideBySide();
        atTheEnd();
        firstLetter();
        leastOfThese();
        cannotStand();
        badNumber();
        tooMany();
        emptyText();
        Says.nothingUntested();
        Check.end("Section1Test");
    }

    private static SaddleFit tell(String text) {
        SaddleFit x = new SaddleFit();
        for (int i = 0; i < text.length(); i++) {
            Says.ask(x, "feed(" + (int) text.charAt(i) + ") = " + (i + 1));
        }
        return x;
    }

    private static SaddleFit good(String text, int burdens, String script) {
        SaddleFit x = tell(text);
        Says.ask(x, "shop() = " + burdens + " fault() = NONE told(2) = 0 told(0) = " + burdens);
        return Says.ask(x, script);
    }

    private static void bad(String text, int fault, int letter) {
        SaddleFit x = tell(text);
        int was = x.shop();
        Says.so("shop() of [" + text + "] answered " + was + "; " + (-10 - fault), was == -10 - fault);
        int at = x.fault();
        Says.so("fault() of [" + text + "] answered " + at + "; " + letter, at == letter);
        Says.ask(x, "told(0) = 0  told(1) = 0  told(2) = 0  day(1) = NOT");
    }

    private static void letters() {
        Says.says("THE SHOP is told in a text (240 letters at most): clauses:");
        String full = "f0;" + " ".repeat(230) + "b1 2 3;";
        good(full, 1, "burden(0, 0) = 1  burden(0, 1) = 2  burden(0, 2) = 3");
        Says.ask(tell(full), "told(2) = 240  feed(59) = FULL  told(2) = 240  shop() = 1");
        good(full.substring(0, 3) + full.substring(4), 1, "burden(0, 2) = 3");
        String cut = " " + full.substring(0, 239);
        bad(cut, 1, 240);
        Says.ask(tell(cut), "feed(59) = FULL  shop() = -11  fault() = 240");
        bad("f0;" + " ".repeat(236) + "x", 1, 239);
    }

    private static void flock() {
        Says.says("'f' N ';' (FLOCK N pounds in stock, 0 .. 99; first, once)");
        for (int n = 0; n <= 99; n++) {
            good("f" + n + ";", 0, "told(4) = " + n);
        }
        bad("f100;", 2, 1);
        bad("f999;", 2, 1);
        bad("f;", 1, 1);
        bad("f0 0;", 1, 3);
        bad("b0 1 0;f0;", 1, 0);
        bad("p1 0;f0;", 1, 0);
        bad("f0;f0;", 3, 3);
        bad("f1;b0 1 0;p1 0;f1;", 3, 15);
    }

    private static void burdens() {
        Says.says("'b' K W E ';' (6 BURDENS at most: KIND K, 0 .. 4; WEIGHT W, 1 .. 60; EDGE E, 0 .. 20)");
        for (int k = 0; k <= 4; k++) {
            good("f0;b" + k + " 1 0;", 1, "burden(0, 0) = " + k);
        }
        for (int w = 1; w <= 60; w++) {
            good("f0;b0 " + w + " 0;", 1, "burden(0, 1) = " + w);
        }
        for (int e = 0; e <= 20; e++) {
            good("f0;b0 1 " + e + ";", 1, "burden(0, 2) = " + e);
        }
        bad("f0;b5 1 0;", 2, 4);
        bad("f0;b0 0 0;", 2, 6);
        bad("f0;b0 61 0;", 2, 6);
        bad("f0;b0 1 21;", 2, 8);
        bad("f0;b;", 1, 4);
        bad("f0;b0;", 1, 5);
        bad("f0;b0 1;", 1, 7);
        bad("f0;b0 1 0 0;", 1, 10);
        good(SIX, 6, "burden(5, 1) = 1  burden(6, 1) = UNKNOWN");
        bad(SIX + "b0 1 0;", 3, 45);
    }

    private static void backs() {
        Says.says("'p' S P ';' (5 BACKS at most: STRENGTH S, 1 .. 99; SPINE P, 0 .. 9).");
        for (int s = 1; s <= 99; s++) {
            good("f0;p" + s + " 0;", 0, "told(1) = 1  back(0, 0) = " + s);
        }
        for (int p = 0; p <= 9; p++) {
            good("f0;p1 " + p + ";", 0, "told(1) = 1  back(0, 1) = " + p);
        }
        bad("f0;p0 0;", 2, 4);
        bad("f0;p100 0;", 2, 4);
        bad("f0;p1 10;", 2, 6);
        bad("f0;p;", 1, 4);
        bad("f0;p1;", 1, 5);
        bad("f0;p1 0 0;", 1, 8);
        good(FIVE, 0, "told(1) = 5  back(4, 0) = 1  back(5, 0) = UNKNOWN");
        bad(FIVE + "p1 0;", 3, 28);
    }

    private static void numbers() {
        Says.says("NUMBERS have one to three figures;");
        good("f7;", 0, "told(4) = 7");
        good("f07;", 0, "told(4) = 7");
        good("f007;", 0, "told(4) = 7");
        good("f000;", 0, "told(4) = 0");
        good("f099;b004 060 020;p099 009;", 1,
                "told(4) = 99  burden(0, 0) = 4  burden(0, 1) = 60  burden(0, 2) = 20  back(0, 0) = 99  back(0, 1) = 9");
        bad("f0007;", 2, 1);
        bad("f0990;", 2, 1);
        bad("f0;b0004 1 0;", 2, 4);
        bad("f0;b0 0001 0;", 2, 6);
        bad("f0;b0 1 0000;", 2, 8);
        bad("f0;p0001 0;", 2, 4);
        bad("f0;p1 0000;", 2, 6);
        bad("f4294967303;", 2, 1);
        bad("f" + "0".repeat(238) + ";", 2, 1);
    }

    private static void words() {
        Says.says("a word is one letter;");
        bad("ff0;", 1, 1);
        bad("f0;bb0 1 0;", 1, 4);
        bad("f0;pp1 0;", 1, 4);
        bad("f0;bp1 0;", 1, 4);
        bad("F0;", 1, 0);
        bad("f0;B0 1 0;", 1, 3);
        bad("f0;P1 0;", 1, 3);
    }

    private static void blanks() {
        Says.says("blanks (32) may stand anywhere but within NUMBERS;");
        String all = "told(4) = 4  told(1) = 1  burden(0, 0) = 3  burden(0, 1) = 6  burden(0, 2) = 7  back(0, 0) = 8  back(0, 1) = 9";
        String text = "f4;b3 6 7;p8 9;";
        good("  f  4  ;  b  3  6  7  ;  p  8  9  ;  ", 1, all);
        for (int i = 0; i <= text.length(); i++) {
            good(text.substring(0, i) + " " + text.substring(i), 1, all);
            for (char other : new char[] {0, 9, 10, 13, 31, 33, 160, 255}) {
                bad(text.substring(0, i) + other + text.substring(i), 1, i);
            }
        }
        bad("f4 0;", 1, 3);
        bad("f0;b0 2 0 5;", 1, 10);
        bad("f0;p2 5 4;", 1, 8);
    }

    private static void sideBySide() {
        Says.says("two NUMBERS side by side need one.");
        good("f0;b4 60 20;p9 9;", 1, "burden(0, 1) = 60  burden(0, 2) = 20  back(0, 0) = 9");
        bad("f0;b460 20;", 2, 4);
        bad("f0;b020;", 2, 4);
        bad("f0;b0 205;", 2, 6);
        bad("f0;b42020;", 2, 4);
        bad("f0;p99;", 1, 6);
        bad("f0;p254;", 2, 4);
    }

    private static void atTheEnd() {
        Says.says("FAULTS, at the first letter that has one (the end at the text's length), of these the least:");
        String text = "f0;b0 1 0;p1 0;";
        for (int n = 1; n <= text.length(); n++) {
            String told = text.substring(0, n);
            if (told.endsWith(";")) {
                good(told, n < 10 ? 0 : 1, "day(1) = 0");
            } else {
                bad(told, 1, n);
                bad(told + "  ", 1, n + 2);
                endsAlsoBehindAnother(text, told);
            }
        }
    }

    /** What an earlier text had behind the end is no part of this one. */
    private static void endsAlsoBehindAnother(String earlier, String text) {
        SaddleFit x = Says.ask(Check.feed(new SaddleFit(), earlier), "shop() = 1");
        Says.ask(Check.feed(x, text), "shop() = -11  fault() = " + text.length() + "  told(1) = 1");
    }

    private static void firstLetter() {
        bad("f100;x", 2, 1);
        bad("xf100;", 1, 0);
        bad("f0;f100;x", 3, 3);
        bad("f0;b5 0 21;", 2, 4);
        bad("f0;b0 0 21;", 2, 6);
        bad("f0;b0 0 q", 2, 6);
        bad("f1000x", 2, 1);
        bad("f100", 2, 1);
        bad("f0;b0 61", 2, 6);
        bad("f0;f", 3, 3);
        bad("f0;x;f0;", 1, 3);
        bad("f0;f0;x", 3, 3);
    }

    /** Two faults at one letter. */
    private static void leastOfThese() {
        bad("ff", 1, 1);
        bad("f0 f", 1, 3);
        bad("f0 1000;", 1, 3);
        bad("f0;1000;", 1, 3);
        bad("1000;", 1, 0);
        bad(SIX + "p1 b", 1, 48);
        bad(FIVE + "b0 p", 1, 31);
    }

    private static void cannotStand() {
        Says.says("1 it cannot stand there (a letter that is no word, another word first than 'f').");
        for (char c = 0; c <= 255; c++) {
            boolean figure = c >= '0' && c <= '9';
            if (c != 'f' && c != ' ') {
                bad(c + "0;", 1, 0);
            }
            if ("fbp ".indexOf(c) < 0) {
                bad("f0;" + c + "0 1 0;", 1, 3);
            }
            if (c != ' ' && !figure) {
                bad("f" + c + "0;", 1, 1);
                bad("f0;b0 1" + c, 1, 7);
            }
            if (c != ' ' && c != ';') {
                bad("f0 " + c, 1, 3);
                bad("f0;p1 0 " + c, 1, 8);
            }
        }
        bad("b0 1 0;", 1, 0);
        bad("p1 0;", 1, 0);
        bad("   b0 1 0;", 1, 3);
    }

    private static void badNumber() {
        Says.says("2 a NUMBER of four figures or more, or out of its bounds (at its first).");
        bad("f   100;", 2, 4);
        bad("f   1000;", 2, 4);
        bad("f12345678901234567890;", 2, 1);
        bad("f0;b  5 1 0;", 2, 6);
        bad("f0;b0   0 0;", 2, 8);
        bad("f0;b0 1   999;", 2, 10);
        bad("f0;p  100 0;", 2, 6);
        bad("f0;p1   10;", 2, 8);
    }

    private static void tooMany() {
        Says.says("3 'f' again, a seventh 'b', a sixth 'p' (at it).");
        bad("f0;  f", 3, 5);
        bad("f0;fx", 3, 3);
        bad(SIX + "f", 3, 45);
        bad(FIVE + "f0;", 3, 28);
        bad(SIX + "  b", 3, 47);
        bad(SIX + "p1 0;b9999", 3, 50);
        bad(FIVE + "  p", 3, 30);
        bad(FIVE + "b0 1 0;p9999", 3, 35);
        good(SIX + FIVE.substring(3), 6, "told(1) = 5");
        bad(SIX + FIVE.substring(3) + "b", 3, 70);
        bad(SIX + FIVE.substring(3) + "p", 3, 70);
    }

    private static void emptyText() {
        Says.says("An empty text (or one of blanks alone): no SHOP.");
        String none = "shop() = 0  fault() = NONE  told(0) = 0  told(1) = 0  told(2) = 0  told(4) = 0  day(1) = NOT  drift(1) = NOT  worst(1, 0) = NOT";
        for (int blanks : new int[] {0, 1, 2, 240}) {
            Says.ask(tell(" ".repeat(blanks)), none);
            SaddleFit x = Says.shop("f9;b0 9 9;p9 9;", "day(1) = 0  worst(1, 0) = 0");
            Says.ask(Check.feed(x, " ".repeat(blanks)), none);
        }
        good("f0;", 0, "day(1) = 0  drift(1) = 0  worst(1, 0) = 0");
    }
}
