/** Promises 14 to 16: rows told by hand, and what rules prove. */
public final class Rows {
    public static void main(String[] args) throws Exception {
        Suite.run(Rows.class, 14, 15, 16);
    }

    static void promise14HowMany(Check check) {
        VillageRounds x = new VillageRounds();
        for (int i = 1; i <= 12; i++) {
            check.due("row", x.row(3 * i), i);
            check.due("count(5)", x.count(5), i);
        }
    }

    static void promise14SetTooSmall(Check check) {
        for (int set : Make.below(-1)) {
            check.still("row(" + set + ")", Make::rich, x -> x.row(set), -2);
        }
    }

    static void promise14SetTooLarge(Check check) {
        for (int set : Make.above(255)) {
            check.still("row(" + set + ")", Make::rich, x -> x.row(set), -2);
        }
    }

    static void promise14SetLeastAndMost(Check check) {
        VillageRounds x = new VillageRounds();
        check.due("row(0)", x.row(0), 1);
        check.due("row(255), none of them there", x.row(255), 2);
    }

    static void promise14TwelveAtMost(Check check) {
        VillageRounds x = new VillageRounds();
        for (int i = 0; i < 11; i++) {
            x.row(0);
        }
        check.due("the twelfth", x.row(0), 12);
        check.due("the thirteenth", x.row(0), -4);
    }

    static void promise14FullChangesNothing(Check check) {
        check.still("row(1)", Make::full, x -> x.row(1), -4);
    }

    static void promise14BadAheadOfFull(Check check) {
        check.still("row(256)", Make::full, x -> x.row(256), -2);
        check.still("row(-2)", Make::full, x -> x.row(-2), -2);
    }

    static void promise14Minus1Empties(Check check) {
        VillageRounds x = Make.full();
        check.due("row(-1) of a full one", x.row(-1), 0);
        check.due("count(5)", x.count(5), 0);
        check.due("judged()", x.judged(), -5);
        check.due("row(-1) of an empty one", x.row(-1), 0);
        check.due("the first again", x.row(1), 1);
    }

    static void promise15TheFirstHungryOne(Check check) {
        VillageRounds x = Make.hill("give 30 c=1", 2, 5);
        x.set(1, 30);
        for (int set : new int[] {1, 2, 1, 2, 2, 1}) {
            x.row(set);
        }
        check.due("judged()", x.judged(), 4);
    }

    static void promise15EmptyRow(Check check) {
        check.due("judged()", Make.hill("give 30 c=1", 2, 5).judged(), -5);
    }

    static void promise15NoneHungry(Check check) {
        VillageRounds x = Make.hill("give 30 c>0", 2);
        x.set(1, 30);
        for (int i = 0; i < 12; i++) {
            x.row(1);
            check.due("row of " + (i + 1), x.judged(), -5);
        }
    }

    static void promise15TheFirstAndTheTwelfth(Check check) {
        VillageRounds x = Make.hill("give 30 c<12", 2);
        x.set(1, 30);
        for (int i = 0; i < 12; i++) {
            x.row(1);
        }
        check.due("the twelfth", x.judged(), 11);
        x.set(1, 31);
        check.due("the first", x.judged(), 0);
    }

    static void promise15AsManyAsMouthsIsNotHungry(Check check) {
        VillageRounds x = Make.hill("give 30 c=1", 2);
        x.row(1);
        x.set(1, 30);
        check.due("30 mouths", x.judged(), -5);
        x.set(1, 31);
        check.due("31 mouths", x.judged(), 0);
    }

    static void promise15ASetOfNone(Check check) {
        VillageRounds x = Make.hill("give 30 c=1", 2);
        x.set(1, 1);
        x.row(0);
        check.due("judged()", x.judged(), 0);
    }

    static void promise15BitsOfNoSuchPlots(Check check) {
        VillageRounds x = Make.hill("give 30 c=1", 2, 5);
        x.set(1, 30);
        x.row(1 + 252);
        x.row(2 + 128);
        check.due("they give nothing", x.judged(), -5);
        x.set(1, 31);
        check.due("they give nothing", x.judged(), 0);
        x.plot(0, 9);
        x.set(1, 60);
        check.due("one is there now", x.judged(), 1);
    }

    static void promise15MouthsGrow(Check check) {
        VillageRounds x = Make.hill("give 30 c=1;grow 50", 2, 5);
        x.set(1, 20);
        x.row(1);
        x.row(2);
        x.row(1);
        check.due("20, 30, 45", x.judged(), 2);
    }

    static void promise15TheVillageStays(Check check) {
        VillageRounds x = Make.hill("give 30 c=1;walk 8;move 9", 0, 20);
        x.row(1);
        x.row(2);
        check.due("judged()", x.judged(), 1);
        x.set(0, 20);
        x.set(1, 30);
        x.row(-1);
        x.row(2);
        check.due("and pays no move", x.judged(), -5);
    }

    /** 49 of 32, 42 of 33, and 22 of 34, as plot 4 is too far. */
    static void promise15AskingChangesNothing(Check check) {
        check.still("judged()", Make::rich, VillageRounds::judged, 2);
    }

    /** Two plots too far apart for one village: it moves each year but the first. */
    private static VillageRounds mover(int mouths) {
        VillageRounds x = Make.ruledHill(0, 1, "give 30 c=1;walk 8;move 5", 0, 20);
        x.set(1, mouths);
        return x;
    }

    static void promise16RuleTooSmall(Check check) {
        for (int rule : Make.below(0)) {
            check.still("proof(" + rule + ", 3, 0)", Make::rich, x -> x.proof(rule, 3, 0), -1);
        }
    }

    static void promise16RuleTooLarge(Check check) {
        for (int rule : new int[] {7, 8, Integer.MAX_VALUE}) {
            check.still("proof(" + rule + ", 3, 0)", Make::rich, x -> x.proof(rule, 3, 0), -1);
        }
        check.still("proof(8, 3, 0) of eight", Make::full, x -> x.proof(8, 3, 0), -1);
    }

    static void promise16WhatTooSmall(Check check) {
        for (int what : Make.below(0)) {
            check.still("proof(0, 3, " + what + ")", Make::rich, x -> x.proof(0, 3, what), -1);
        }
    }

    static void promise16WhatTooLarge(Check check) {
        for (int what : Make.above(2)) {
            check.still("proof(0, 3, " + what + ")", Make::rich, x -> x.proof(0, 3, what), -1);
        }
    }

    static void promise16YearsTooFew(Check check) {
        for (int n : Make.below(1)) {
            for (int what = 0; what <= 2; what++) {
                int asked = what;
                check.still("proof(0, " + n + ", " + what + ")", Make::rich, x -> x.proof(0, n, asked), -2);
            }
        }
    }

    static void promise16YearsTooMany(Check check) {
        for (int n : Make.above(30)) {
            for (int what = 0; what <= 2; what++) {
                int asked = what;
                check.still("proof(0, " + n + ", " + what + ")", Make::rich, x -> x.proof(0, n, asked), -2);
            }
        }
    }

    static void promise16NoneAheadOfBad(Check check) {
        check.still("proof(7, 31, 0)", Make::rich, x -> x.proof(7, 31, 0), -1);
        check.still("proof(0, 0, 3)", Make::rich, x -> x.proof(0, 0, 3), -1);
        check.still("proof(0, 31, -1)", Make::rich, x -> x.proof(0, 31, -1), -1);
    }

    static void promise16AskingChangesNothing(Check check) {
        check.still("proof(1, 1, 0)", Make::rich, x -> x.proof(1, 1, 0), 0);
        check.still("proof(1, 1, 1)", Make::rich, x -> x.proof(1, 1, 1), 0);
        check.still("proof(1, 1, 2)", Make::rich, x -> x.proof(1, 1, 2), 20);
    }

    static void promise16NoneHungry(Check check) {
        check.due("in one year", mover(25).proof(0, 1, 0), -5);
        check.due("in thirty", mover(25).proof(0, 30, 0), -5);
    }

    static void promise16TheFirstHungryOne(Check check) {
        check.due("hungry by the move", mover(26).proof(0, 30, 0), 1);
        check.due("hungry behind these years", mover(26).proof(0, 1, 0), -5);
        check.due("hungry at once", mover(31).proof(0, 30, 0), 0);
        check.due("hungry at once", mover(31).proof(0, 1, 0), 0);
    }

    static void promise16TheThirtiethYear(Check check) {
        VillageRounds x = Make.ruledHill(0, 1, "give 38 c>0;grow 1", 0);
        check.due("39 mouths in the thirtieth", x.proof(0, 30, 0), 29);
        check.due("38 in the one ahead", x.proof(0, 29, 0), -5);
    }

    static void promise16MouthsGrow(Check check) {
        VillageRounds x = Make.ruledHill(0, 1, "give 30 c>0;grow 50", 0);
        x.set(1, 20);
        check.due("20, 30, 45", x.proof(0, 30, 0), 2);
    }

    static void promise16NoPlots(Check check) {
        VillageRounds x = Make.rules();
        for (int rule = 0; rule < 7; rule++) {
            check.due("hungry at once", x.proof(rule, 30, 0), 0);
            check.due("moves never", x.proof(rule, 30, 1), 0);
            check.due("feeds none", x.proof(rule, 30, 2), 0);
        }
    }

    static void promise16MovedInHowMany(Check check) {
        check.due("in none", mover(20).proof(0, 1, 1), 0);
        check.due("in one", mover(20).proof(0, 2, 1), 1);
        check.due("in all but the first", mover(20).proof(0, 30, 1), 29);
        check.due("behind a hungry year, too", mover(26).proof(0, 30, 1), 29);
    }

    static void promise16MouthsThatGrowMayMove(Check check) {
        VillageRounds x = Make.ruledHill(0, 1, "give 30 c>0;walk 8;grow 50", 0, 14);
        x.plot(0, 14);
        x.set(1, 20);
        check.due("moved in the third year", x.proof(0, 2, 1), 0);
        check.due("moved in the third year", x.proof(0, 3, 1), 1);
    }

    static void promise16MostMouths(Check check) {
        check.due("in one year", mover(10).proof(0, 1, 2), 30);
        check.due("in two", mover(10).proof(0, 2, 2), 25);
        check.due("in thirty", mover(10).proof(0, 30, 2), 25);
    }

    static void promise16MostIs99AtMost(Check check) {
        check.due("198 for all", Make.ruledHill(0, 1, "give 99 c>0;grow 50", 0, 1).proof(0, 30, 2), 99);
        check.due("99 for all", Make.ruledHill(0, 1, "give 99 c>0", 0).proof(0, 30, 2), 99);
        check.due("98 for all", Make.ruledHill(0, 1, "give 98 c>0", 0).proof(0, 30, 2), 98);
    }

    static void promise16Most0IfNone(Check check) {
        check.due("one for all", Make.ruledHill(0, 1, "give 1 c>0", 0).proof(0, 5, 2), 1);
        check.due("none", Make.ruledHill(0, 1, "give 0 c>0", 0).proof(0, 5, 2), 0);
        check.due("none in the second year", Make.ruledHill(0, 1, "give 30 c=1", 0).proof(0, 2, 2), 0);
    }

    static void promise16MostThoughMouthsGrow(Check check) {
        check.due("if that never grew", Make.ruledHill(0, 1, "give 30 c>0;grow 50", 0).proof(0, 5, 2), 30);
    }

    /** Up to 10 mouths burn the first plot alone, and the other has lain too long in the second year. */
    static void promise16MostThoughFewerAreHungry(Check check) {
        VillageRounds x = Make.hill("give 10 c=1&y=5;give 20 c=2&y=5&s=1", 0);
        x.plot(1, 0);
        x.lies(0, 5);
        x.lies(1, 5);
        x.rule(0, 1);
        check.due("ten are hungry", x.proof(0, 2, 0), 1);
        check.due("the greatest", x.proof(0, 2, 2), 20);
    }
}
