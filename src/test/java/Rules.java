/** Promises 10 to 12: rules, what they have burnt, where the village moves by them. */
public final class Rules {
    public static void main(String[] args) throws Exception {
        Suite.run(Rules.class, 10, 11, 12);
    }

    private static int burns(VillageRounds x, int rule, int mouths) {
        x.set(1, mouths);
        return x.burns(rule);
    }

    static void promise10RulesAreNumberedFrom0On(Check check) {
        VillageRounds x = new VillageRounds();
        for (int i = 0; i < 8; i++) {
            check.due("rule " + i, x.rule(i % 7, i + 1), i);
            check.due("count(1)", x.count(1), i + 1);
        }
        for (int i = 0; i < 8; i++) {
            check.due("v of " + i, x.as(i, i % 7), i + 1);
        }
    }

    static void promise10KindTooSmall(Check check) {
        for (int kind : Make.below(0)) {
            check.still("rule(" + kind + ", 3)", Make::rich, x -> x.rule(kind, 3), -1);
        }
    }

    static void promise10KindTooLarge(Check check) {
        for (int kind : Make.above(6)) {
            check.still("rule(" + kind + ", 3)", Make::rich, x -> x.rule(kind, 3), -1);
        }
    }

    static void promise10KindLeastAndMost(Check check) {
        VillageRounds x = new VillageRounds();
        check.due("rule(0, 3)", x.rule(0, 3), 0);
        check.due("rule(6, 3)", x.rule(6, 3), 1);
        check.due("as(0, 0)", x.as(0, 0), 3);
        check.due("as(1, 6)", x.as(1, 6), 3);
    }

    static void promise10VTooSmall(Check check) {
        for (int v : Make.below(1)) {
            check.still("rule(2, " + v + ")", Make::rich, x -> x.rule(2, v), -2);
        }
    }

    static void promise10VTooLarge(Check check) {
        for (int v : Make.above(30)) {
            check.still("rule(2, " + v + ")", Make::rich, x -> x.rule(2, v), -2);
        }
    }

    static void promise10VLeastAndMost(Check check) {
        VillageRounds x = new VillageRounds();
        check.due("rule(2, 1)", x.rule(2, 1), 0);
        check.due("rule(2, 30)", x.rule(2, 30), 1);
        check.due("as(0, 2)", x.as(0, 2), 1);
        check.due("as(1, 2)", x.as(1, 2), 30);
    }

    static void promise10EightAtMost(Check check) {
        VillageRounds x = Make.rules();
        check.due("the eighth", x.rule(0, 1), 7);
        check.due("the ninth", x.rule(0, 1), -4);
    }

    static void promise10FullChangesNothing(Check check) {
        check.still("rule(1, 1)", Make::full, x -> x.rule(1, 1), -4);
    }

    static void promise10NoneAheadOfBad(Check check) {
        check.still("rule(7, 0)", Make::rich, x -> x.rule(7, 0), -1);
        check.still("rule(-1, 31)", Make::rich, x -> x.rule(-1, 31), -1);
    }

    static void promise10NoneAndBadAheadOfFull(Check check) {
        check.still("rule(7, 1)", Make::full, x -> x.rule(7, 1), -1);
        check.still("rule(0, 0)", Make::full, x -> x.rule(0, 0), -2);
    }

    static void promise11RuleTooSmall(Check check) {
        for (int rule : Make.below(0)) {
            check.still("burns(" + rule + ")", Make::rich, x -> x.burns(rule), -1);
        }
    }

    static void promise11RuleTooLarge(Check check) {
        for (int rule : new int[] {7, 8, Integer.MAX_VALUE}) {
            check.still("burns(" + rule + ")", Make::rich, x -> x.burns(rule), -1);
        }
        check.still("burns(8) of eight", Make::full, x -> x.burns(8), -1);
    }

    /** Plots 0 to 3 give 19, 10, 20, 19, plot 4 is too far; 1 and 3 are under crop, 0 has lain 0; year 2. */
    static void promise11AskingChangesNothing(Check check) {
        int[] sets = {5, 4, 12, 14, 9, 14, 12};
        for (int kind = 0; kind < 7; kind++) {
            int rule = kind;
            check.still("burns(" + rule + ")", Make::rich, x -> x.burns(rule), sets[rule]);
        }
    }

    static void promise11NoPlots(Check check) {
        for (int rule = 0; rule < 7; rule++) {
            check.due("burns(" + rule + ")", Make.rules().burns(rule), 0);
        }
    }

    static void promise11NoLand(Check check) {
        VillageRounds x = Make.rules();
        x.plot(0, 0);
        for (int rule = 0; rule < 7; rule++) {
            check.due("burns(" + rule + ")", x.burns(rule), rule == 1 ? 1 : 0);
        }
    }

    static void promise11RuleTillMouthsOrMore(Check check) {
        VillageRounds x = Make.fourSoils();
        x.rule(0, 3);
        check.due("the least of like ones", burns(x, 0, 1), 2);
        check.due("just as many", burns(x, 0, 20), 2);
        check.due("one more", burns(x, 0, 21), 6);
        check.due("just as many", burns(x, 0, 40), 6);
        check.due("one more", burns(x, 0, 41), 7);
        check.due("just as many", burns(x, 0, 50), 7);
        check.due("all", burns(x, 0, 55), 15);
        check.due("all that give, though not enough", burns(x, 0, 99), 15);
    }

    static void promise11RuleAllOfEight(Check check) {
        VillageRounds x = Make.ruledHill(0, 1, "give 9 c=1", new int[8]);
        check.due("just as many", burns(x, 0, 63), 127);
        check.due("one more", burns(x, 0, 64), 255);
        check.due("not enough", burns(x, 0, 99), 255);
    }

    static void promise11NoneOfEightMay(Check check) {
        VillageRounds x = Make.hill("give 9 c>0", new int[8]);
        x.rule(2, 1);
        x.rule(5, 1);
        x.rule(6, 1);
        x.rule(3, 1);
        for (int plot = 0; plot < 8; plot++) {
            x.lies(plot, 0);
        }
        x.set(0, 2);
        for (int rule = 0; rule < 4; rule++) {
            check.due("burns(" + rule + ")", x.burns(rule), 0);
        }
        x.year(255, 2);
        check.due("long, all in their first year", x.burns(2), 0);
    }

    static void promise11RuleNoneThatGives0(Check check) {
        VillageRounds x = Make.fourSoils();
        x.rule(0, 3);
        Make.land(x, "give 5 s=0;give 1 s=1");
        check.due("one that gives 1", burns(x, 0, 6), 3);
        check.due("none that gives 0", burns(x, 0, 7), 3);
        Make.land(x, "give 9 c=1;walk 8");
        check.due("none that is too far", burns(x, 0, 99), 3);
    }

    static void promise11RoundModulo(Check check) {
        VillageRounds x = Make.fourSoils();
        x.rule(1, 2);
        x.rule(1, 3);
        x.rule(1, 4);
        int[] two = {5, 10, 5, 10, 5};
        int[] three = {9, 2, 4, 9, 2};
        int[] four = {1, 2, 4, 8, 1};
        for (int i = 0; i < 5; i++) {
            check.due("round of 2 in year " + i, x.burns(0), two[i]);
            check.due("round of 3 in year " + i, x.burns(1), three[i]);
            check.due("round of 4 in year " + i, x.burns(2), four[i]);
            x.year(0, 0);
        }
    }

    static void promise11RoundOf1(Check check) {
        VillageRounds x = Make.fourSoils();
        x.rule(1, 1);
        check.due("all", x.burns(0), 15);
        x.year(0, 0);
        check.due("all", x.burns(0), 15);
        Make.land(x, "walk 1");
        check.due("those that give 0, too", x.burns(0), 15);
    }

    static void promise11RoundOf30(Check check) {
        VillageRounds x = Make.hill("", 0, 1, 2, 3, 4, 5, 6, 7);
        x.rule(1, 30);
        for (int year = 0; year <= 60; year++) {
            check.due("in year " + year, x.burns(0), year % 30 < 8 ? 1 << year % 30 : 0);
            x.year(0, 0);
        }
    }

    static void promise11RestLainLessThanV(Check check) {
        VillageRounds x = Make.fourSoils();
        x.rule(2, 10);
        x.lies(1, 9);
        check.due("one less", burns(x, 0, 20), 4);
        check.due("one less, and all wanted", burns(x, 0, 99), 13);
        x.lies(1, 10);
        check.due("as many", burns(x, 0, 20), 2);
        x.lies(1, 11);
        check.due("one more", burns(x, 0, 20), 2);
    }

    static void promise11RestOf30(Check check) {
        VillageRounds x = Make.fourSoils();
        x.rule(2, 30);
        x.lies(0, 29);
        check.due("lain 29, and 30", burns(x, 0, 99), 14);
    }

    static void promise11RestThoseUnderCropMay(Check check) {
        VillageRounds x = Make.fourSoils();
        x.rule(2, 10);
        x.lies(1, 3);
        x.year(2, 0);
        check.due("under crop", burns(x, 0, 20), 2);
        x.year(2, 0);
        x.year(0, 0);
        check.due("lies again", burns(x, 0, 99), 13);
    }

    static void promise11NearTheNearestFirst(Check check) {
        VillageRounds x = Make.fourSoils();
        x.rule(3, 30);
        x.set(0, 6);
        check.due("nearest", burns(x, 0, 20), 2);
        check.due("then the next", burns(x, 0, 21), 6);
        check.due("then the next", burns(x, 0, 41), 7);
        check.due("all", burns(x, 0, 51), 15);
    }

    static void promise11NearNoneFarther(Check check) {
        VillageRounds x = Make.fourSoils();
        x.rule(3, 14);
        x.rule(3, 13);
        x.rule(3, 3);
        x.rule(3, 1);
        x.set(0, 6);
        check.due("just as far", burns(x, 0, 99), 15);
        check.due("farther", burns(x, 1, 99), 7);
        check.due("two as far on either side", burns(x, 2, 99), 6);
        check.due("one", burns(x, 3, 99), 2);
        x.set(0, 40);
        check.due("all farther", burns(x, 3, 99), 0);
    }

    static void promise11NearOfLikeOnesAsRule(Check check) {
        VillageRounds x = Make.fourSoils();
        x.rule(3, 30);
        x.set(0, 7);
        check.due("the least", burns(x, 0, 1), 2);
        Make.land(x, "give 5 s=1;give 6 s=2;give 50 s=3");
        check.due("the one that gives most", burns(x, 0, 1), 4);
        x.set(0, 2);
        check.due("none that gives 0, though nearest", burns(x, 0, 1), 2);
    }

    static void promise11NearAheadOfGivingMost(Check check) {
        VillageRounds x = Make.hill("give 99 p>0;".repeat(9) + "give 1 c=1", 0, 1);
        x.rule(3, 30);
        check.due("1 at 0 ahead of 892 at 1", burns(x, 0, 1), 1);
    }

    static void promise11BestFewestThenLeast(Check check) {
        VillageRounds x = Make.fourSoils();
        x.rule(4, 1);
        check.due("one, the least that does", burns(x, 0, 5), 8);
        check.due("one", burns(x, 0, 6), 1);
        check.due("of like ones the least bits", burns(x, 0, 20), 2);
        check.due("two, giving least", burns(x, 0, 25), 10);
        check.due("two, the least bits", burns(x, 0, 30), 3);
        check.due("two", burns(x, 0, 31), 6);
        check.due("three, giving least", burns(x, 0, 45), 14);
        check.due("three", burns(x, 0, 46), 7);
        Make.land(x, "give 10 s<2;give 20 s=2;give 3 s=3");
        check.due("one, though two with lower bits do", burns(x, 0, 20), 4);
    }

    static void promise11BestMouthsOrMore(Check check) {
        VillageRounds x = Make.fourSoils();
        x.rule(4, 1);
        check.due("just as many", burns(x, 0, 10), 1);
        check.due("one more", burns(x, 0, 11), 2);
        check.due("just as many by all", burns(x, 0, 55), 15);
    }

    static void promise11BestWithoutSuchASet(Check check) {
        VillageRounds x = Make.fourSoils();
        x.rule(4, 1);
        check.due("all", burns(x, 0, 56), 15);
        Make.land(x, "give 9 s<2");
        check.due("just enough", burns(x, 0, 18), 3);
        check.due("all that give anything", burns(x, 0, 19), 3);
        Make.land(x, "give 1 s>1");
        check.due("all that give anything", burns(x, 0, 19), 12);
        Make.land(x, "walk 1");
        check.due("none gives", burns(x, 0, 1), 0);
    }

    static void promise11BestOfOneAndOfEight(Check check) {
        VillageRounds x = Make.ruledHill(4, 1, "give 9 c=1", 0);
        check.due("of one", burns(x, 0, 9), 1);
        VillageRounds y = Make.ruledHill(4, 1, "give 9 c=1", 0, 0, 0, 0, 0, 0, 0, 0);
        check.due("all eight", burns(y, 0, 72), 255);
        check.due("seven, the least bits", burns(y, 0, 63), 127);
        check.due("all eight, though not enough", burns(y, 0, 73), 255);
    }

    /** "None farther than v" is told of NEAR alone. */
    static void promise11BestAsksNoDistance(Check check) {
        VillageRounds x = Make.fourSoils();
        x.rule(4, 1);
        x.set(0, 40);
        check.due("all are farther than v", burns(x, 0, 55), 15);
    }

    static void promise11StayThoseUnderCropFirst(Check check) {
        VillageRounds x = Make.fourSoils();
        x.rule(5, 10);
        x.year(8, 0);
        check.due("the one under crop, though it gives least", burns(x, 0, 5), 8);
        check.due("then as rest", burns(x, 0, 6), 10);
        x.year(9, 0);
        check.due("of those under crop the one that gives most", burns(x, 0, 10), 1);
        check.due("of those under crop the next", burns(x, 0, 11), 9);
        check.due("then as rest", burns(x, 0, 16), 11);
        Make.land(x, "give 9 s=2");
        check.due("none that gives 0", burns(x, 0, 9), 4);
    }

    static void promise11StayAheadOfGivingMost(Check check) {
        VillageRounds x = Make.hill("give 99 p>0&c=1;".repeat(6) + "give 99 p>0;give 1 c=2", 0, 1);
        x.rule(5, 1);
        x.year(1, 0);
        check.due("1 under crop ahead of 693", burns(x, 0, 1), 1);
    }

    static void promise11StayLainLessThanV(Check check) {
        VillageRounds x = Make.fourSoils();
        x.rule(5, 10);
        x.lies(1, 9);
        check.due("one less", burns(x, 0, 99), 13);
        x.lies(1, 10);
        check.due("as many", burns(x, 0, 99), 15);
        x.lies(1, 0);
        x.year(2, 0);
        check.due("under crop", burns(x, 0, 20), 2);
    }

    static void promise11LongInItsVthYearOrLater(Check check) {
        VillageRounds x = Make.fourSoils();
        x.rule(6, 2);
        x.rule(6, 1);
        x.rule(6, 3);
        int[] two = {15, 15, 0, 0};
        int[] one = {15, 0, 0, 0};
        int[] three = {15, 15, 15, 0};
        for (int crop = 0; crop < 4; crop++) {
            check.due("v 2, crop " + crop, burns(x, 0, 99), two[crop]);
            check.due("v 1, crop " + crop, burns(x, 1, 99), one[crop]);
            check.due("v 3, crop " + crop, burns(x, 2, 99), three[crop]);
            x.year(15, 0);
        }
    }

    static void promise11LongLainLessThanV(Check check) {
        VillageRounds x = Make.fourSoils();
        x.rule(6, 2);
        x.lies(0, 1);
        check.due("one less", burns(x, 0, 99), 14);
        x.lies(0, 2);
        check.due("as many", burns(x, 0, 99), 15);
        check.due("as rest, the one that gives most", burns(x, 0, 1), 2);
    }

    private static VillageRounds mover(int move) {
        VillageRounds x = Make.fourSoils();
        Make.land(x, "give 20 c=1;walk 8;move " + move);
        x.rule(0, 1);
        x.set(1, 50);
        return x;
    }

    static void promise12RuleTooSmall(Check check) {
        for (int rule : Make.below(0)) {
            check.still("moves(" + rule + ")", Make::rich, x -> x.moves(rule), -1);
        }
    }

    static void promise12RuleTooLarge(Check check) {
        for (int rule : new int[] {7, 8, Integer.MAX_VALUE}) {
            check.still("moves(" + rule + ")", Make::rich, x -> x.moves(rule), -1);
        }
        check.still("moves(8) of eight", Make::full, x -> x.moves(8), -1);
    }

    static void promise12AskingChangesNothing(Check check) {
        check.still("moves(0)", () -> mover(5), x -> x.moves(0), 2);
    }

    static void promise12LessThanMouthsHere(Check check) {
        VillageRounds x = mover(5);
        x.set(1, 40);
        check.due("just fed here", x.moves(0), 0);
        x.set(1, 41);
        check.due("hungry here", x.moves(0), 2);
        VillageRounds y = mover(0);
        y.rule(1, 1);
        y.set(1, 40);
        check.due("just fed here, though more is elsewhere", y.moves(1), 0);
        y.set(1, 41);
        check.due("more is elsewhere", y.moves(1), 2);
    }

    static void promise12OnlyIfGreaterThanHere(Check check) {
        check.due("just greater, by move", mover(19).moves(0), 2);
        check.due("as great", mover(20).moves(0), 0);
        check.due("less", mover(21).moves(0), 0);
        VillageRounds x = Make.ruledHill(0, 1, "give 8 p=0;give 9 p=9;walk 8", 0, 9);
        check.due("just greater than at a plot", x.moves(0), 9);
        Make.land(x, "give 9 p=0;give 9 p=9;walk 8");
        check.due("as great as at a plot", x.moves(0), 0);
    }

    static void promise12OfSeveralTheLeastPlot(Check check) {
        VillageRounds x = Make.ruledHill(0, 1, "give 9 c=1;walk 3", 30, 20, 25);
        check.due("the place of plot 0", x.moves(0), 30);
        VillageRounds y = Make.ruledHill(0, 1, "give 9 c=1;walk 3", 30, 20, 21);
        check.due("the place where two are near", y.moves(0), 20);
    }

    static void promise12NoMoveToPayHere(Check check) {
        VillageRounds x = mover(5);
        x.set(0, 5);
        check.due("at the place of a plot", x.moves(0), 5);
        VillageRounds y = Make.ruledHill(0, 1, "give 9 c=1;walk 3;move 5", 10, 12);
        y.set(0, 12);
        y.set(1, 99);
        check.due("as much at either", y.moves(0), 12);
    }

    static void promise12NoPlots(Check check) {
        VillageRounds x = Make.rules();
        x.set(0, 9);
        for (int rule = 0; rule < 7; rule++) {
            check.due("moves(" + rule + ")", x.moves(rule), 9);
        }
    }

    static void promise12NothingToHarvest(Check check) {
        VillageRounds x = Make.ruledHill(0, 1, "walk 40", 7);
        check.due("0 there and here", x.moves(0), 0);
    }

    static void promise12FromPlace0To40AndBack(Check check) {
        VillageRounds x = Make.ruledHill(0, 1, "give 9 c=1;walk 0;move 8", 40);
        check.due("from 0", x.moves(0), 40);
        VillageRounds y = Make.ruledHill(0, 1, "give 9 c=1;walk 0;move 8", 0);
        y.set(0, 40);
        check.due("from 40", y.moves(0), 0);
    }

    static void promise12ByKinds(Check check) {
        VillageRounds x = Make.hill("give 9 s=0;give 30 s=1;walk 3", 30, 10);
        x.plot(1, 12);
        x.rule(1, 3);
        x.rule(3, 1);
        x.rule(0, 1);
        x.set(1, 9);
        check.due("of a round what its turn gives", x.moves(0), 30);
        check.due("of near", x.moves(1), 12);
        check.due("of rule, the least plot of two places", x.moves(2), 10);
        x.set(1, 39);
        check.due("of rule both", x.moves(2), 10);
        check.due("none farther than v from there", x.moves(1), 12);
    }
}
