/** Promises 26 to 31: what is felt, the book. */
public final class FeltTest {
    private static final int NONE = SaddleFit.NONE, UNKNOWN = SaddleFit.UNKNOWN, OUTSIDE = SaddleFit.OUTSIDE, FULL = SaddleFit.FULL;

    public static void main(String[] args) {
        feel();
        carries();
        tryNext();
        book();
        Check.end("FeltTest");
    }

    private static void feel() {
        SaddleFit x = new SaddleFit();
        Check.row("bounds", new int[] {x.feel(0, 0, 0), x.feel(100, 0, 0), x.feel(1, -1, 0), x.feel(1, 31, 0), x.feel(1, 0, -1), x.feel(1, 0, 100)},
                OUTSIDE, OUTSIDE, OUTSIDE, OUTSIDE, OUTSIDE, OUTSIDE);
        Check.due("told(11)", x.told(11), 0);
        Check.row("feel", new int[] {x.feel(1, 0, 0), x.feel(99, 30, 99), x.feel(1, 0, 0), x.feel(1, 0, 0), x.feel(1, 0, 0), x.feel(1, 0, 0)}, 1, 2, 3, 4, 5, 6);
        Check.due("a seventh", x.feel(1, 0, 0), FULL);
        Check.due("a seventh that is outside", x.feel(0, 0, 0), OUTSIDE);
        Check.due("told(11)", x.told(11), 6);
    }

    private static void carries() {
        SaddleFit x = new SaddleFit();
        Check.row("nothing felt", carriesRow(x), 1260, 1, 0);
        x.feel(99, 0, 7);
        Check.row("edge of 7", carriesRow(x), 60, 1, 7);
        x.feel(20, 0, 17);
        Check.row("weight of 30", carriesRow(x), 1, 30, 7);
        x.feel(20, 7, 11);
        Check.row("none", carriesRow(x), 0, NONE, NONE);
        x.tear();
        x.feel(20, 20, 5);
        Check.row("any edge", carriesRow(x), 21, 25, 0);
        x.tear();
        x.feel(58, 15, 4);
        Check.row("edge or weight", carriesRow(x), 58 + 1 + 1, 1, 19);
        x.tear();
        x.feel(1, 0, 79);
        Check.row("the greatest pair", carriesRow(x), 1, 60, 20);
        Check.due("carries(-1)", x.carries(-1), OUTSIDE);
        Check.due("carries(3)", x.carries(3), OUTSIDE);
    }

    private static int[] carriesRow(SaddleFit x) {
        return new int[] {x.carries(0), x.carries(1), x.carries(2)};
    }

    private static void tryNext() {
        SaddleFit x = new SaddleFit();
        Check.due("nothing felt", x.tryNext(), 1);
        x.feel(20, 0, 15);
        x.feel(10, 5, 20);
        // Weights 20 to 30 with edges that fall from 15 to 5: only a strength as great as all parts them wholly.
        Check.due("tryNext()", x.tryNext(), 30);
        x.feel(99, 0, 5);
        Check.due("one pair", x.tryNext(), NONE);
        x.feel(99, 0, 6);
        Check.due("no pair", x.tryNext(), NONE);
        x.tear();
        x.feel(59, 0, 20);
        // Weights to 59 with edge 20, and 60 with 19: strength 1 parts the most of them.
        Check.due("the least of like ones", x.tryNext(), 1);
        Check.due("nothing changes", x.told(11), 1);
        x.tear();
        x.feel(58, 0, 21);
        Check.row("59 with 20, 60 with 19", new int[] {x.carries(0), x.tryNext()}, 2, 60);
        x.tear();
        x.feel(1, 0, 20);
        Check.row("1 with 20 to 21 with 0", new int[] {x.carries(0), x.tryNext()}, 21, 21);
        x.feel(3, 18, 2);
        Check.row("1 with 20, 5 with 16", new int[] {x.carries(0), x.tryNext()}, 2, 2);
    }

    private static void book() {
        SaddleFit none = new SaddleFit();
        Check.due("write without backs", none.write(0, 0), UNKNOWN);
        Check.due("judge() of nothing", none.judge(), NONE);
        SaddleFit x = Check.shop("f0;b0 20 0;p10 0;p1 0;");
        Check.row("refused", new int[] {x.write(2, 10000), x.write(-1, 0), x.write(0, -1), x.write(0, 10000)}, UNKNOWN, UNKNOWN, OUTSIDE, OUTSIDE);
        Check.due("told(12)", x.told(12), 0);
        Check.row("write", new int[] {x.write(0, 0), x.write(1, 0), x.write(0, 10), x.write(1, 1)}, 1, 2, 3, 4);
        Check.due("judge()", x.judge(), 2);
        x.take(0, 0);
        x.day(1);
        Check.due("judge() behind a day", x.judge(), 0);
        x.undo();
        Check.due("judge() of what is undone", x.judge(), 2);
        for (int i = 5; i <= 15; i++) {
            Check.due("write", x.write(0, 9999), i);
        }
        Check.due("a sixteenth", x.write(0, 0), FULL);
        Check.due("a sixteenth, outside", x.write(0, 10000), OUTSIDE);
        Check.due("a sixteenth, unknown", x.write(2, 10000), UNKNOWN);
        x.feel(1, 1, 1);
        Check.due("tear()", x.tear(), 16);
        Check.row("nothing is left", new int[] {x.told(11), x.told(12), x.judge(), x.carries(0), x.tear()}, 0, 0, NONE, 1260, 0);
        x.hand(0, 0, 1);
        x.day(1);
        x.write(1, 19);
        x.write(0, 0);
        Check.due("each entry is of its own back", x.judge(), NONE);
        x.write(0, 19);
        Check.due("the other's is wrong", x.judge(), 2);
        x.tear();
        x.undo();
        for (int i = 0; i < 14; i++) {
            x.write(1, 0);
        }
        Check.due("all is so", x.judge(), NONE);
        x.write(0, 9999);
        Check.due("the last is wrong", x.judge(), 14);
    }
}
