/** Promises 14 to 23: rows told, proofs, rounds for ever, lying less, rains, two villages, ways, ages. */
public final class RowsAndRounds {
    private static final Check CHECK = new Check();

    public static void main(String[] args) {
        row();
        judged();
        proof();
        proofMost();
        ever();
        everEdges();
        less();
        safe();
        safeMoves();
        two();
        way();
        age();
        round();
        CHECK.end("RowsAndRounds");
    }

    private static void due(String call, long got, long want) {
        CHECK.due(call, got, want);
    }

    /** Plots of soil 0 at places told. */
    private static VillageRounds hill(String land, int... places) {
        VillageRounds x = new VillageRounds();
        for (int place : places) {
            x.plot(0, place);
        }
        Check.land(x, land);
        return x;
    }

    private static void row() {
        VillageRounds x = new VillageRounds();
        due("14 row(-2)", x.row(-2), -2);
        due("14 row(256)", x.row(256), -2);
        for (int i = 1; i <= 12; i++) {
            due("14 row", x.row(i % 2 * 255), i);
        }
        due("14 full", x.row(0), -4);
        due("14 BAD ahead of FULL", x.row(256), -2);
        due("14 twelve", x.count(5), 12);
        due("14 emptied", x.row(-1), 0);
        due("14 none", x.count(5), 0);
        due("14 first again", x.row(1), 1);
    }

    private static void judged() {
        VillageRounds x = hill("give 30 c=1", 2, 5);
        x.set(1, 30);
        due("15 no row", x.judged(), -5);
        x.row(1);
        x.row(2);
        due("15 none hungry", x.judged(), -5);
        x.row(1 + 252);
        x.row(2);
        due("15 bits of no plots", x.judged(), -5);
        x.row(2);
        x.row(1);
        due("15 the first hungry one", x.judged(), 4);
        x.set(1, 31);
        due("15 all hungry", x.judged(), 0);
        due("15 asked changes nothing", x.count(3) + x.of(0, 2), 0);
        VillageRounds y = hill("give 30 c=1;grow 50", 2, 5);
        y.set(1, 20);
        y.row(1);
        y.row(2);
        y.row(1);
        due("15 mouths grow", y.judged(), 2);
        VillageRounds z = hill("give 30 c=1;walk 8", 0, 20);
        z.row(1);
        z.row(2);
        due("15 the village stays", z.judged(), 1);
    }

    private static void proof() {
        VillageRounds x = hill("give 30 c=1;walk 8;move 5", 0, 20);
        x.rule(0, 1);
        due("16 no such rule", x.proof(1, 1, 0), -1);
        due("16 no such rule", x.proof(-1, 1, 0), -1);
        due("16 no such what", x.proof(0, 1, 3), -1);
        due("16 NONE ahead of BAD", x.proof(0, 31, -1), -1);
        due("16 n 0", x.proof(0, 0, 0), -2);
        due("16 n 31", x.proof(0, 31, 2), -2);
        x.set(1, 25);
        due("16 none hungry", x.proof(0, 30, 0), -5);
        due("16 moved each year but the first", x.proof(0, 5, 1), 4);
        due("16 moved", x.proof(0, 1, 1), 0);
        x.set(1, 26);
        due("16 hungry by the move", x.proof(0, 30, 0), 1);
        due("16 hungry behind these years", x.proof(0, 1, 0), -5);
        x.set(1, 31);
        due("16 hungry at once", x.proof(0, 30, 0), 0);
        due("16 asked changes nothing", x.count(3) + x.of(0, 2), 0);
        VillageRounds y = hill("give 30 c>0;grow 50", 0);
        y.rule(0, 1);
        y.set(1, 20);
        due("16 mouths grow", y.proof(0, 30, 0), 2);
    }

    private static void proofMost() {
        VillageRounds x = hill("give 30 c=1;walk 8;move 5", 0, 20);
        x.rule(0, 1);
        due("16 most in a year", x.proof(0, 1, 2), 30);
        due("16 most in two", x.proof(0, 2, 2), 25);
        due("16 most in thirty", x.proof(0, 30, 2), 25);
        due("16 asked changes nothing", x.set(1, 10), 10);
        VillageRounds y = hill("give 99 c>0;grow 50", 0, 1);
        y.rule(0, 1);
        due("16 99 at most, none grow", y.proof(0, 30, 2), 99);
        VillageRounds z = hill("give 30 c=1", 0);
        z.rule(0, 1);
        due("16 none", z.proof(0, 2, 2), 0);
        VillageRounds w = hill("give 30 c>0;grow 50", 0);
        w.rule(0, 1);
        due("16 none grow", w.proof(0, 5, 2), 30);
        VillageRounds v = hill("give 1 c>0", 0);
        v.rule(0, 1);
        due("16 one", v.proof(0, 5, 2), 1);
        proofMostAboveHunger();
    }

    /** Up to 10 mouths burn the first plot alone, and the other has lain too long in the second year. */
    private static void proofMostAboveHunger() {
        VillageRounds x = hill("give 10 c=1&y=5;give 20 c=2&y=5&s=1", 0);
        x.plot(1, 0);
        x.lies(0, 5);
        x.lies(1, 5);
        x.rule(0, 1);
        due("16 ten are hungry", x.proof(0, 2, 0), 1);
        due("16 the greatest, though less fail", x.proof(0, 2, 2), 20);
    }

    private static void ever() {
        VillageRounds x = hill("give 30 c=1;walk 8;move 5", 0, 20);
        x.rule(0, 1);
        x.set(1, 20);
        due("17 no such rule", x.ever(1, 0), -1);
        due("17 no such rule", x.ever(-1, 0), -1);
        due("17 no such what", x.ever(0, 3), -1);
        due("17 no such what", x.ever(0, -1), -1);
        due("17 the year", x.ever(0, 0), 5);
        due("17 the round", x.ever(0, 1), 2);
        due("17 the least harvest", x.ever(0, 2), 25);
        due("17 asked changes nothing", x.count(3) + x.of(0, 2), 0);
        VillageRounds y = hill("give 30 c=1;walk 8;move 5;grow 99", 0, 0, 20, 20);
        y.rule(0, 1);
        y.set(1, 20);
        due("17 mouths never grow", y.ever(0, 2), 30);
    }

    private static void everEdges() {
        VillageRounds x = new VillageRounds();
        x.rule(0, 4);
        x.rule(1, 7);
        due("17 no plots", x.ever(0, 0), 1);
        due("17 no plots", x.ever(0, 1), 1);
        due("17 no plots", x.ever(0, 2), 0);
        due("17 a round turns without plots, too", x.ever(1, 0), 7);
        due("17 a round turns without plots, too", x.ever(1, 1), 7);
        VillageRounds y = hill("give 30 c>0", 0);
        y.rule(5, 1);
        y.rule(1, 1);
        due("17 under crop for ever", y.ever(0, 0), -9);
        due("17 under crop for ever", y.ever(1, 1), -9);
        due("17 under crop for ever", y.ever(1, 2), -9);
        int[] years = {199, 200, -9};
        int[] rounds = {22, 22, -9};
        VillageRounds z = hill("give 30 c=1;wear c=1");
        z.rule(1, 22);
        for (int i = 0; i < 3; i++) {
            z.plot(0, 0);
            due("17 plots " + (i + 1), z.ever(0, 0), years[i]);
            due("17 plots " + (i + 1), z.ever(0, 1), rounds[i]);
            due("17 plots " + (i + 1), z.ever(0, 2), i == 2 ? -9 : 0);
        }
    }

    private static void less() {
        VillageRounds x = hill("give 30 c=1;give 5 y<3;wear y<3", 0, 0, 0, 0);
        x.set(1, 20);
        due("18 n 0", x.less(0), -2);
        due("18 n 31", x.less(31), -2);
        due("18 three years", x.less(3), 1);
        due("18 four years", x.less(4), 2);
        due("18 five years", x.less(5), -5);
        x.plot(0, 0);
        due("18 with a fifth plot", x.less(5), 3);
        due("18 with a fifth plot for long", x.less(30), 3);
        due("18 asked changes nothing", x.count(3) + x.of(0, 4), 0);
        VillageRounds y = hill("give 30 c>0", 0);
        due("18 at once", y.less(30), 1);
        y.set(1, 31);
        due("18 hungry", y.less(1), -5);
        VillageRounds z = hill("give 30 c>0;wear c=1", 0);
        due("18 worn", z.less(1), -5);
        VillageRounds w = hill("give 30 c>0;grow 50", 0);
        due("18 mouths grow", w.less(4), -5);
        due("18 not yet", w.less(3), 1);
        VillageRounds u = hill("give 5 y=30;give 31 y=29;wear y=29", 0, 0);
        u.lies(0, 29);
        u.set(1, 5);
        due("18 v 30", u.less(1), 30);
        z.year(1, 0);
        due("18 no more worn than now", z.less(1), 1);
    }

    private static void safe() {
        VillageRounds x = hill("give 31 c=1;dry 3", 0, 0);
        x.rule(0, 1);
        long no = Long.MIN_VALUE;
        due("19 no such rule", x.safe(1, 1, 0), no);
        due("19 no such rule", x.safe(-1, 1, 0), no);
        due("19 n 0", x.safe(0, 0, 0), no);
        due("19 n 7", x.safe(0, 7, 0), no);
        due("19 no such part", x.safe(0, 1, 2), no);
        due("19 no such part", x.safe(0, 1, -1), no);
        x.set(1, 16);
        fraction("19 one year", x, 1, 7, 10);
        fraction("19 two years", x, 2, 49, 100);
        fraction("19 six years", x, 6, 117649, 1000000);
        x.set(1, 15);
        fraction("19 half is enough", x, 6, 1, 1);
        x.set(1, 40);
        fraction("19 hungry in the second year", x, 2, 0, 1);
        due("19 asked changes nothing", x.count(3) + x.of(0, 2), 0);
        Check.land(x, "give 31 c=1;dry 5");
        x.set(1, 16);
        fraction("19 lowest terms", x, 2, 1, 4);
        Check.land(x, "give 31 c=1;dry 50");
        fraction("19 dry 10 at most", x, 1, 0, 1);
        Check.land(x, "give 31 c=1");
        fraction("19 dry 0 without", x, 6, 1, 1);
        Check.land(x, "give 31 c=1;dry 99;dry 4;grow 99");
        fraction("19 mouths grow", x, 2, 0, 1);
    }

    private static void fraction(String call, VillageRounds x, int n, long above, long below) {
        due(call + ", above", x.safe(0, n, 0), above);
        due(call + ", below", x.safe(0, n, 1), below);
    }

    private static void safeMoves() {
        VillageRounds x = hill("give 30 c=1;walk 8;move 5;dry 3", 20);
        x.rule(0, 1);
        x.set(1, 11);
        fraction("19 half of what all give, less move", x, 1, 7, 10);
        x.set(1, 10);
        fraction("19 half of what all give, less move", x, 1, 1, 1);
    }

    private static void two() {
        VillageRounds x = hill("give 10 c=1;walk 8", 0, 0, 20);
        due("20 place -1", x.two(-1), -2);
        due("20 place 41", x.two(41), -2);
        x.set(1, 20);
        due("20 the other at 20", x.two(20), 3);
        due("20 the other here", x.two(0), 4);
        due("20 the other where nothing is near", x.two(40), 0);
        x.set(1, 21);
        due("20 half rounded up", x.two(20), 0);
        x.set(1, 19);
        due("20 half rounded up", x.two(20), 3);
        due("20 no plots", new VillageRounds().two(0), 0);
    }

    private static void way() {
        VillageRounds x = hill("give 10 c=1;walk 8", 0, 0, 20, 30);
        due("21 way(-1)", x.way(-1), -2);
        due("21 way(41)", x.way(41), -2);
        due("21 way(0)", x.way(0), 0);
        due("21 way(11)", x.way(11), 0);
        due("21 way(12)", x.way(12), 10);
        due("21 way(22)", x.way(22), 20);
        due("21 way(40)", x.way(40), 20);
        x.set(0, 10);
        due("21 way(2)", x.way(2), 30);
        Check.land(x, "give 10 c=1");
        due("21 walk 99 without", x.way(40), 0);
    }

    private static void age() {
        VillageRounds x = new VillageRounds();
        due("22 age(-2)", x.age(-2), -2);
        due("22 age(100)", x.age(100), -2);
        for (int i = 1; i <= 10; i++) {
            due("22 age", x.age(i % 2 * 99), i);
        }
        due("22 full", x.age(0), -4);
        due("22 BAD ahead of FULL", x.age(100), -2);
        due("22 ten", x.count(6), 10);
        due("22 emptied", x.age(-1), 0);
        due("22 none", x.count(6), 0);
        due("22 first again", x.age(5), 1);
    }

    /** By the document's words a round of 1 tells every age. */
    private static void round() {
        VillageRounds x = new VillageRounds();
        due("23 round(-1)", x.round(-1), -2);
        due("23 round(10)", x.round(10), -2);
        due("23 no ages", x.round(0), 1);
        x.age(11);
        x.age(22);
        x.age(99);
        due("23 round(0)", x.round(0), 1);
        due("23 round(9)", x.round(9), 1);
    }
}
