/** An object in which there is something of all that an object can hold, and all that can be seen of one. */
final class Rich {
    private Rich() {
    }

    /** Burden 0 is carried by back 0, 1 by 0, 2 by 2 and 1, 3 and 4 by nobody; day 9, 12 pounds in stock. */
    static SaddleFit make() {
        SaddleFit x = Check.shop("f20;b0 20 5;b1 31 4;b2 10 3;b3 6 0;b4 15 7;p25 4;p40 0;p10 9;");
        Says.ask(x, "take(0, 0)  take(1, 2)  share(1, 0)  day(2)  seed(77)  keep(0)  stuff(0, 5)  down(1, 2)  day(1)  seed(78)  keep(1)");
        Says.ask(x, "take(2, 2)  weigh(2, 12)  day(5)  stuff(1, 3)  share(2, 1)  day(1)  feel(20, 0, 15)  feel(10, 5, 20)");
        int sore = x.back(0, 2);
        x.write(0, sore);
        x.write(1, 0);
        x.write(2, 1);
        return Check.feed(x, "f7;b1 1 1;");
    }

    /** What make() makes, and no more of it can be put in. */
    static SaddleFit full() {
        SaddleFit x = make();
        Says.times(149, x, "day(60)");
        Says.ask(x, "day(52)  told(3) = 9001");
        while (x.told(11) < 6) {
            x.feel(20, 0, 15);
        }
        while (x.told(12) < 15) {
            x.write(1, 0);
        }
        while (x.told(2) < 240) {
            x.feed(' ');
        }
        return x;
    }

    /** What an object holds without a shop. */
    static SaddleFit bare() {
        return Check.feed(Says.fresh("seed(9)  keep(1)  seed(10)  feel(20, 0, 15)"), "f7;b1 1 1;");
    }

    /** What is felt and written is seen through what it answers, the text through shop(): the object is used up by it. */
    static String deep(SaddleFit x) {
        String text = "letters " + x.told(2) + ", fault " + x.fault() + "\n";
        return text + deepButText(x) + x.shop() + ": " + seen(x);
    }

    /** The same without the text and its fault. */
    static String deepButText(SaddleFit x) {
        StringBuilder all = new StringBuilder(seen(x));
        for (int i = 0; i < 17; i++) {
            all.append(x.undo()).append(": ").append(seen(x));
        }
        for (int i = 0; i < 2; i++) {
            all.append(x.goBack(i)).append(": ").append(seen(x));
        }
        return all.toString();
    }

    private static String seen(SaddleFit x) {
        return Check.held(x) + " " + x.carries(1) + " " + x.carries(2) + " " + x.tryNext() + "\n";
    }
}
