/** Promises 7 and 8: place and mouths set, what a plot gives. */
public final class Gifts {
    public static void main(String[] args) throws Exception {
        Suite.run(Gifts.class, 7, 8);
    }

    static void promise07WhatItWas(Check check) {
        VillageRounds x = Make.fourSoils();
        check.due("set(0, 40)", x.set(0, 40), 0);
        check.due("set(1, 99)", x.set(1, 99), 10);
        check.due("set(0, 7)", x.set(0, 7), 40);
        check.due("set(1, 8)", x.set(1, 8), 99);
        check.due("set(0, 7)", x.set(0, 7), 7);
        check.due("set(1, 8)", x.set(1, 8), 8);
    }

    static void promise07WhatTooSmall(Check check) {
        for (int what : Make.below(0)) {
            check.still("set(" + what + ", 5)", Make::rich, x -> x.set(what, 5), -1);
        }
    }

    static void promise07WhatTooLarge(Check check) {
        for (int what : Make.above(1)) {
            check.still("set(" + what + ", 5)", Make::rich, x -> x.set(what, 5), -1);
        }
    }

    static void promise07PlaceTooSmall(Check check) {
        for (int n : Make.below(0)) {
            check.still("set(0, " + n + ")", Make::rich, x -> x.set(0, n), -2);
        }
    }

    static void promise07PlaceTooLarge(Check check) {
        for (int n : Make.above(40)) {
            check.still("set(0, " + n + ")", Make::rich, x -> x.set(0, n), -2);
        }
    }

    static void promise07PlaceLeastAndMost(Check check) {
        VillageRounds x = new VillageRounds();
        x.set(0, 40);
        check.due("set(0, 0) from 40", x.set(0, 0), 40);
        check.due("set(0, 1) from 0", x.set(0, 1), 0);
    }

    static void promise07MouthsTooFew(Check check) {
        for (int n : Make.below(1)) {
            check.still("set(1, " + n + ")", Make::rich, x -> x.set(1, n), -2);
        }
    }

    static void promise07MouthsTooMany(Check check) {
        for (int n : Make.above(99)) {
            check.still("set(1, " + n + ")", Make::rich, x -> x.set(1, n), -2);
        }
    }

    static void promise07MouthsLeastAndMost(Check check) {
        VillageRounds x = new VillageRounds();
        x.set(1, 1);
        check.due("set(1, 99) from 1", x.set(1, 99), 1);
        check.due("set(1, 9) from 99", x.set(1, 9), 99);
    }

    static void promise07NoneAheadOfBad(Check check) {
        check.still("set(2, -1)", Make::rich, x -> x.set(2, -1), -1);
        check.still("set(-1, 100)", Make::rich, x -> x.set(-1, 100), -1);
    }

    static void promise08PlotTooSmall(Check check) {
        for (int plot : Make.below(0)) {
            check.still("gives(" + plot + ")", Make::rich, x -> x.gives(plot), -1);
        }
    }

    static void promise08PlotTooLarge(Check check) {
        for (int plot : new int[] {5, 7, 8, Integer.MAX_VALUE}) {
            check.still("gives(" + plot + ")", Make::rich, x -> x.gives(plot), -1);
        }
        check.still("gives(8) of eight", Make::full, x -> x.gives(8), -1);
    }

    static void promise08AskingChangesNothing(Check check) {
        check.still("of one that would be worn", Make::rich, x -> x.gives(0), 19);
        check.still("of one under crop", Make::rich, x -> x.gives(1), 10);
        check.still("of one that lies", Make::rich, x -> x.gives(2), 20);
    }

    static void promise08NothingWithoutALand(Check check) {
        VillageRounds x = new VillageRounds();
        x.plot(0, 0);
        check.due("gives(0)", x.gives(0), 0);
    }

    static void promise08ByYearsUnderCropAndLain(Check check) {
        VillageRounds x = Make.hill("give 20 c=1;give 8 c=2&y>9;give 1 c<3;walk 8", 2);
        check.due("first year", x.gives(0), 21);
        x.year(1, 0);
        check.due("second year", x.gives(0), 9);
        x.year(1, 0);
        check.due("third year", x.gives(0), 0);
        x.lies(0, 9);
        x.year(1, 0);
        check.due("second year, had lain 9", x.gives(0), 1);
        x.lies(0, 10);
        x.year(1, 0);
        check.due("second year, had lain 10", x.gives(0), 9);
    }

    private static void by(Check check, String condition, int want) {
        VillageRounds x = new VillageRounds();
        x.plot(2, 7);
        x.lies(0, 12);
        Make.land(x, "give 5 " + condition);
        check.due("gives by " + condition, x.gives(0), want);
    }

    /** Each letter against a number just below, the same, and just above. */
    static void promise08TestsAtTheirEdges(Check check) {
        String letters = "cysp";
        int[] values = {1, 12, 2, 7};
        for (int i = 0; i < 4; i++) {
            for (int more = -1; more <= 1; more++) {
                String told = "" + (values[i] + more);
                by(check, letters.charAt(i) + "<" + told, more > 0 ? 5 : 0);
                by(check, letters.charAt(i) + "=" + told, more == 0 ? 5 : 0);
                by(check, letters.charAt(i) + ">" + told, more < 0 ? 5 : 0);
            }
        }
        by(check, "w<0", 0);
        by(check, "w=0", 5);
        by(check, "w>0", 0);
        by(check, "w<1", 5);
    }

    /** Years under crop have no bound, a number told has. */
    static void promise08YearsUnderCropBeyond99(Check check) {
        VillageRounds x = Make.ruledHill(1, 1, "give 1 c<99;give 2 c=99;give 4 c>99;give 8 y>30", 0);
        for (int years : new int[] {30, 30, 30, 7}) {
            x.go(0, years);
        }
        int[] gives = {1, 2, 4, 4};
        for (int i = 0; i < 4; i++) {
            check.due("in year " + (98 + i), x.gives(0), gives[i]);
            x.go(0, 1);
        }
    }

    static void promise08NotsAndsOrs(Check check) {
        by(check, "!c=1", 0);
        by(check, "!!c=1", 5);
        by(check, "!!!!!c=1", 0);
        by(check, "c=1|c=1&c=2", 5);
        by(check, "c=2&c=1|c=1", 5);
        by(check, "c=2&(c=1|c=1)", 0);
        by(check, "(c=1|c=1)&c=2", 0);
        by(check, "!c=2&c=2", 0);
        by(check, "!(c=2&c=2)", 5);
        by(check, "!c=1|c=1", 5);
        by(check, "!(c=1|c=1)", 0);
        by(check, "c=2|c=2|c=1", 5);
        by(check, "c=2|c=1|c=2", 5);
        by(check, "c=1|c=2|c=2", 5);
        by(check, "c=2&c=1&c=1", 0);
        by(check, "c=1&c=2&c=1", 0);
        by(check, "c=1&c=1&c=2", 0);
        by(check, "c=2|c=1&s=2|c=2", 5);
        by(check, "c=2|c=1&s=3|c=2", 0);
        by(check, "((c=2|(c=1&!(s=3|p=7))))", 0);
        by(check, "((c=2|(c=1&!(s=3|p=8))))", 5);
        by(check, "(((((c=1)))))&(((((c=2)))))", 0);
    }

    static void promise08AllThatHoldTogether(Check check) {
        VillageRounds x = Make.hill("give 99 c=1;".repeat(9) + "give 99 c<99", 0);
        check.due("ten of 99", x.gives(0), 990);
        check.due("none that holds", Make.hill("give 9 c>1;give 9 c=0", 0).gives(0), 0);
        check.due("give 0", Make.hill("give 0 c=1", 0).gives(0), 0);
    }

    static void promise08WornAsItComesIntoTheFirstYear(Check check) {
        VillageRounds x = Make.hill("give 20 c<9;wear y<6", 2);
        check.due("rested", x.gives(0), 20);
        x.lies(0, 6);
        check.due("lain 6", x.gives(0), 20);
        x.lies(0, 5);
        check.due("lain 5", x.gives(0), 19);
        x.year(1, 0);
        check.due("not again in the next", x.gives(0), 19);
    }

    static void promise08WornOnceThoughTwoHold(Check check) {
        check.due("gives(0)", Make.hill("give 20 c<9;wear c=1;wear y=30", 2).gives(0), 19);
    }

    static void promise08WearLooksAtWAsItWas(Check check) {
        VillageRounds x = Make.hill("give 9 w=1;wear w=0", 2);
        check.due("give looks at w then", x.gives(0), 8);
        x.year(1, 0);
        x.lies(0, 0);
        check.due("worn no more", x.gives(0), 8);
    }

    static void promise08WearHasC1(Check check) {
        check.due("wear c=1", Make.hill("give 9 c=1;wear c=1", 2).gives(0), 8);
        check.due("wear c<1", Make.hill("give 9 c=1;wear c<1", 2).gives(0), 9);
        check.due("wear c>1", Make.hill("give 9 c=1;wear c>1", 2).gives(0), 9);
    }

    static void promise08Worn9AtMost(Check check) {
        VillageRounds x = Make.hill("give 20 c=1;wear c=1", 2);
        for (int i = 0; i < 9; i++) {
            check.due("worn " + (i + 1), x.gives(0), 19 - i);
            x.year(1, 0);
            x.lies(0, 30);
        }
        check.due("worn 9 already", x.gives(0), 11);
    }

    static void promise08ZeroAtLeast(Check check) {
        VillageRounds x = Make.hill("give 2 c=1;wear c=1", 2);
        int[] gives = {1, 0, 0, 0};
        for (int i = 0; i < 4; i++) {
            check.due("worn " + (i + 1), x.gives(0), gives[i]);
            x.year(1, 0);
            x.lies(0, 30);
        }
    }

    static void promise08AsFarAsWalk(Check check) {
        VillageRounds x = Make.hill("walk 3;give 5 c=1;walk 8", 9);
        int[] places = {0, 1, 9, 17, 18};
        int[] gives = {0, 5, 5, 5, 0};
        for (int i = 0; i < 5; i++) {
            x.set(0, places[i]);
            check.due("from " + places[i], x.gives(0), gives[i]);
        }
    }

    static void promise08Walk0(Check check) {
        VillageRounds x = Make.hill("give 5 c=1;walk 0", 9);
        int[] gives = {0, 5, 0};
        for (int i = 0; i < 3; i++) {
            x.set(0, 8 + i);
            check.due("from " + (8 + i), x.gives(0), gives[i]);
        }
    }
}
