/** Promises 24 to 29: acts and their trace, rules taken for kinds, the image, counts. */
public final class ActsAndImage {
    private static final Check CHECK = new Check();

    public static void main(String[] args) {
        acts();
        actsWrap();
        actsOfNone();
        as();
        imageOfPlots();
        imageOfRules();
        imageLeavesTrace();
        count();
        CHECK.end("ActsAndImage");
    }

    private static void due(String call, long got, long want) {
        CHECK.due(call, got, want);
    }

    private static VillageRounds ruled() {
        VillageRounds x = new VillageRounds();
        int[] leads = {5, 3, 11, 7, 9, 4, 2};
        for (int kind = 0; kind < 7; kind++) {
            x.rule(kind, leads[kind]);
        }
        return x;
    }

    private static void act(VillageRounds x, int rule, int act, int want, int... bodies) {
        String call = "act(" + rule + ", " + act + ", 10)";
        due("24 " + call, x.act(rule, act, 10), want);
        due("29 bodies of " + call, x.count(7), bodies.length);
        for (int i = 0; i < bodies.length; i++) {
            due("25 body " + i + " of " + call, x.trace(i), bodies[i]);
        }
        due("25 behind the last of " + call, x.trace(bodies.length), -1);
        due("25 trace(-1)", x.trace(-1), -1);
    }

    private static void acts() {
        VillageRounds x = ruled();
        act(x, 0, 0, 10, 1);
        act(x, 0, 1, 5, 2, 1);
        act(x, 0, 2, 10, 3, 2, 1);
        act(x, 1, 0, 31, 11, 1);
        act(x, 1, 1, 28, 2, 11, 1);
        act(x, 1, 2, 56, 3, 2, 11, 1);
        act(x, 2, 0, 12, 1);
        act(x, 2, 1, -1, 21, 2, 1);
        act(x, 2, 2, -2, 3, 21, 2, 1);
        act(x, 3, 0, 13, 1);
        act(x, 3, 1, 6, 2, 1);
        act(x, 3, 2, 11, 31, 3, 2, 1);
        act(x, 4, 0, 14, 1);
        act(x, 4, 1, 5, 2, 1);
        act(x, 4, 2, 21, 41, 31, 3, 2, 1, 1);
        act(x, 5, 0, 10, 51, 1);
        act(x, 5, 1, -6, 21, 2, 51, 1);
        act(x, 5, 2, -12, 3, 21, 2, 51, 1);
        act(x, 6, 0, 16, 1);
        act(x, 6, 1, -12, 61, 21, 2, 1);
        act(x, 6, 2, -24, 3, 61, 21, 2, 1);
    }

    private static void actsWrap() {
        VillageRounds x = ruled();
        due("24 wraps", x.act(0, 2, Integer.MAX_VALUE), -12);
        due("24 wraps", x.act(1, 0, Integer.MAX_VALUE), Integer.MAX_VALUE * 3 + 1);
        due("24 wraps", x.act(2, 1, Integer.MIN_VALUE), Integer.MIN_VALUE + 9);
    }

    private static void actsOfNone() {
        int[][] none = {{7, 0}, {-1, 0}, {0, 3}, {0, -1}};
        for (int[] one : none) {
            VillageRounds x = ruled();
            x.act(0, 2, 1);
            due("24 act(" + one[0] + ", " + one[1] + ")", x.act(one[0], one[1], 5), 0);
            due("25 no trace then", x.trace(0), -1);
            due("29 no bodies then", x.count(7), 0);
        }
    }

    private static void as() {
        VillageRounds x = ruled();
        int other = -6;
        int[][] want = {
            {5, other, other, other, other, other, other},
            {3, 3, other, other, other, other, other},
            {11, other, 11, other, other, other, other},
            {7, other, other, 7, other, other, other},
            {9, other, other, 9, 9, other, other},
            {4, other, 4, other, other, 4, other},
            {2, other, 2, other, other, other, 2}
        };
        for (int rule = 0; rule < 7; rule++) {
            for (int k = 0; k < 7; k++) {
                due("26 as(" + rule + ", " + k + ")", x.as(rule, k), want[rule][k]);
            }
        }
        due("26 as(7, 0)", x.as(7, 0), -1);
        due("26 as(-1, 0)", x.as(-1, 0), -1);
        due("26 as(0, 7)", x.as(0, 7), -1);
        due("26 as(0, -1)", x.as(0, -1), -1);
    }

    private static void imageOfPlots() {
        VillageRounds x = new VillageRounds();
        due("28 no image", x.undo(), -3);
        x.plot(1, 5);
        x.plot(2, 6);
        Check.land(x, "give 20 c=1;wear c=1;walk 9;grow 10;move 4;dry 2");
        x.lies(0, 7);
        due("27 image()", x.image(), 2);
        x.plot(3, 7);
        due("9 year(3, 4)", x.year(3, 4), 34);
        x.year(0, 8);
        Check.land(x, "walk 0");
        due("28 undo()", x.undo(), 2);
        int[] first = {1, 5, 0, 7, 0};
        int[] second = {2, 6, 0, 30, 0};
        for (int what = 0; what < 5; what++) {
            due("28 of(0, " + what + ")", x.of(0, what), first[what]);
            due("28 of(1, " + what + ")", x.of(1, what), second[what]);
        }
        due("28 no third plot", x.of(2, 0), -1);
        due("28 the land holds", x.gives(0), 19);
        due("28 year", x.count(3), 0);
        due("28 lands", x.count(2), 1);
        due("28 village", x.set(0, 3), 0);
        due("28 mouths", x.set(1, 30), 10);
        due("28 a second time", x.undo(), 2);
        due("28 village", x.set(0, 3), 0);
        due("28 the plot that comes next is new", x.plot(0, 9), 2);
        due("28 and lies", x.of(2, 3), 30);
        due("27 another image", x.image(), 3);
        x.year(7, 0);
        due("28 as the latest image", x.undo(), 3);
        due("28 village", x.set(0, 0), 3);
    }

    private static void imageOfRules() {
        VillageRounds x = new VillageRounds();
        due("27 of nothing", x.image(), 0);
        x.rule(0, 1);
        x.row(3);
        x.age(9);
        x.feed(0x78, 1);
        due("28 undo()", x.undo(), 0);
        for (int what = 0; what <= 6; what++) {
            due("28 count(" + what + ")", x.count(what), 0);
        }
        x.rule(2, 12);
        x.row(7);
        x.age(9);
        Check.feed(x, "dry");
        x.image();
        x.rule(3, 1);
        x.row(-1);
        x.age(-1);
        Check.land(x, " 3");
        x.undo();
        due("28 rules", x.count(1), 1);
        due("28 the rule", x.as(0, 2), 12);
        due("28 the row", x.count(5), 1);
        due("28 the ages", x.count(6), 1);
        due("28 the tape", x.count(4), 3);
        due("28 the tape's bytes", Check.land(x, " 4"), 0);
    }

    private static void imageLeavesTrace() {
        VillageRounds x = ruled();
        x.act(0, 0, 1);
        x.image();
        x.act(4, 2, 1);
        x.undo();
        due("28 the trace is not of the image", x.count(7), 6);
        due("28 the trace is not of the image", x.trace(0), 41);
    }

    private static void count() {
        VillageRounds x = ruled();
        x.plot(0, 0);
        x.plot(0, 0);
        Check.land(x, "dry 1");
        x.year(0, 0);
        x.year(0, 0);
        x.year(0, 0);
        Check.feed(x, "abcd");
        for (int i = 0; i < 5; i++) {
            x.row(i);
        }
        for (int i = 0; i < 9; i++) {
            x.age(i);
        }
        x.act(3, 2, 1);
        int[] want = {2, 7, 1, 3, 4, 5, 9, 4};
        for (int what = 0; what < 8; what++) {
            due("29 count(" + what + ")", x.count(what), want[what]);
        }
        due("29 count(8)", x.count(8), -1);
        due("29 count(-1)", x.count(-1), -1);
    }
}
