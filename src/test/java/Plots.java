/** Promises 1 to 4: a new object, plots, what they are, that they lie. */
public final class Plots {
    public static void main(String[] args) throws Exception {
        Suite.run(Plots.class, 1, 2, 3, 4);
    }

    static void promise01NoPlots(Check check) {
        VillageRounds x = new VillageRounds();
        check.due("count(0)", x.count(0), 0);
        check.due("of(0, 0)", x.of(0, 0), -1);
        check.due("gives(0)", x.gives(0), -1);
        check.due("year(1, 0)", x.year(1, 0), -1002);
        check.due("year(0, 0)", x.year(0, 0), 0);
    }

    static void promise01NoLand(Check check) {
        VillageRounds x = new VillageRounds();
        check.due("count(2)", x.count(2), 0);
        x.plot(0, 0);
        check.due("gives(0) without clauses", x.gives(0), 0);
        x.year(1, 40);
        check.due("no wear", x.of(0, 4), 0);
        check.due("no move", x.year(0, 0), 0);
        check.due("no grow", x.set(1, 10), 10);
    }

    static void promise01VillageAtPlace0(Check check) {
        check.due("set(0, 3)", new VillageRounds().set(0, 3), 0);
    }

    static void promise01TenMouths(Check check) {
        check.due("set(1, 3)", new VillageRounds().set(1, 3), 10);
    }

    static void promise01YearZero(Check check) {
        check.due("count(3)", new VillageRounds().count(3), 0);
    }

    static void promise01AllElseIsEmpty(Check check) {
        VillageRounds x = new VillageRounds();
        for (int what = 0; what <= 7; what++) {
            check.due("count(" + what + ")", x.count(what), 0);
        }
        check.due("burns(0)", x.burns(0), -1);
        check.due("judged()", x.judged(), -5);
        check.due("trace(0)", x.trace(0), -1);
        check.due("undo()", x.undo(), -3);
    }

    static void promise01ObjectsShareNothing(Check check) {
        check.still("another object filled", VillageRounds::new, x -> Make.full().count(0), 8);
    }

    static void promise02PlotsAreNumberedFrom0On(Check check) {
        VillageRounds x = new VillageRounds();
        for (int i = 0; i < 8; i++) {
            check.due("plot " + i, x.plot(i % 4, i * 5), i);
            check.due("count(0)", x.count(0), i + 1);
        }
        for (int i = 0; i < 8; i++) {
            check.due("soil of " + i, x.of(i, 0), i % 4);
            check.due("place of " + i, x.of(i, 1), i * 5);
        }
    }

    static void promise02LikePlotsAreTwo(Check check) {
        VillageRounds x = new VillageRounds();
        check.due("plot(1, 1)", x.plot(1, 1), 0);
        check.due("plot(1, 1) again", x.plot(1, 1), 1);
    }

    static void promise02SoilTooSmall(Check check) {
        for (int soil : Make.below(0)) {
            check.still("plot(" + soil + ", 5)", Make::rich, x -> x.plot(soil, 5), -2);
        }
    }

    static void promise02SoilTooLarge(Check check) {
        for (int soil : Make.above(3)) {
            check.still("plot(" + soil + ", 5)", Make::rich, x -> x.plot(soil, 5), -2);
        }
    }

    static void promise02SoilLeastAndMost(Check check) {
        VillageRounds x = new VillageRounds();
        check.due("plot(0, 5)", x.plot(0, 5), 0);
        check.due("plot(3, 5)", x.plot(3, 5), 1);
    }

    static void promise02PlaceTooSmall(Check check) {
        for (int place : Make.below(0)) {
            check.still("plot(1, " + place + ")", Make::rich, x -> x.plot(1, place), -2);
        }
    }

    static void promise02PlaceTooLarge(Check check) {
        for (int place : Make.above(40)) {
            check.still("plot(1, " + place + ")", Make::rich, x -> x.plot(1, place), -2);
        }
    }

    static void promise02PlaceLeastAndMost(Check check) {
        VillageRounds x = new VillageRounds();
        check.due("plot(1, 0)", x.plot(1, 0), 0);
        check.due("plot(1, 40)", x.plot(1, 40), 1);
    }

    static void promise02EightAtMost(Check check) {
        VillageRounds x = new VillageRounds();
        for (int i = 0; i < 7; i++) {
            x.plot(0, 0);
        }
        check.due("the eighth", x.plot(3, 40), 7);
        check.due("the ninth", x.plot(3, 40), -4);
    }

    static void promise02FullChangesNothing(Check check) {
        check.still("plot(0, 0)", Make::full, x -> x.plot(0, 0), -4);
    }

    static void promise02BadAheadOfFull(Check check) {
        check.still("plot(4, 0)", Make::full, x -> x.plot(4, 0), -2);
        check.still("plot(0, 41)", Make::full, x -> x.plot(0, 41), -2);
    }

    static void promise03NewPlotLiesAndHasLain30(Check check) {
        VillageRounds x = new VillageRounds();
        x.plot(3, 20);
        int[] fresh = {3, 20, 0, 30, 0};
        for (int what = 0; what < 5; what++) {
            check.due("of(0, " + what + ")", x.of(0, what), fresh[what]);
        }
    }

    static void promise03PlotTooSmall(Check check) {
        for (int plot : Make.below(0)) {
            check.still("of(" + plot + ", 0)", Make::rich, x -> x.of(plot, 0), -1);
        }
    }

    static void promise03PlotTooLarge(Check check) {
        for (int plot : new int[] {5, 7, 8, Integer.MAX_VALUE}) {
            check.still("of(" + plot + ", 0)", Make::rich, x -> x.of(plot, 0), -1);
        }
        check.due("of(7, 1) of eight", Make.full().of(7, 1), 35);
        check.due("of(8, 1) of eight", Make.full().of(8, 1), -1);
    }

    static void promise03WhatTooSmall(Check check) {
        for (int what : Make.below(0)) {
            check.still("of(0, " + what + ")", Make::rich, x -> x.of(0, what), -1);
        }
    }

    static void promise03WhatTooLarge(Check check) {
        for (int what : Make.above(4)) {
            check.still("of(0, " + what + ")", Make::rich, x -> x.of(0, what), -1);
        }
    }

    static void promise03UnderCropItHadLain(Check check) {
        VillageRounds x = Make.fourSoils();
        x.lies(1, 7);
        for (int crop = 1; crop <= 40; crop++) {
            x.year(2, 0);
            check.due("which year under crop", x.of(1, 2), crop);
            check.due("how long it had lain", x.of(1, 3), 7);
        }
    }

    static void promise03AskingChangesNothing(Check check) {
        int[] plot1 = {1, 6, 2, 30, 0};
        for (int what = 0; what < 5; what++) {
            int asked = what;
            check.still("of(1, " + what + ")", Make::rich, x -> x.of(1, asked), plot1[what]);
        }
    }

    static void promise04HowLongItHad(Check check) {
        VillageRounds x = Make.fourSoils();
        check.due("lies(0, 12)", x.lies(0, 12), 30);
        check.due("lies(0, 9)", x.lies(0, 9), 12);
        check.due("of(0, 3)", x.of(0, 3), 9);
        check.due("another plot", x.of(1, 3), 30);
    }

    static void promise04FromUnderCrop(Check check) {
        VillageRounds x = Make.fourSoils();
        x.lies(0, 12);
        x.year(1, 0);
        check.due("how long it had, ahead of crop", x.lies(0, 5), 12);
        check.due("it lies", x.of(0, 2), 0);
        check.due("it has lain", x.of(0, 3), 5);
    }

    static void promise04StaysWorn(Check check) {
        VillageRounds x = Make.hill("wear c=1", 0);
        x.year(1, 0);
        x.lies(0, 30);
        check.due("of(0, 4)", x.of(0, 4), 1);
    }

    static void promise04PlotTooSmall(Check check) {
        for (int plot : Make.below(0)) {
            check.still("lies(" + plot + ", 3)", Make::rich, x -> x.lies(plot, 3), -1);
        }
    }

    static void promise04PlotTooLarge(Check check) {
        for (int plot : new int[] {5, 7, 8, Integer.MAX_VALUE}) {
            check.still("lies(" + plot + ", 3)", Make::rich, x -> x.lies(plot, 3), -1);
        }
        check.still("lies(8, 3) of eight", Make::full, x -> x.lies(8, 3), -1);
    }

    static void promise04YearsTooFew(Check check) {
        for (int y : Make.below(0)) {
            check.still("lies(1, " + y + ")", Make::rich, x -> x.lies(1, y), -2);
        }
    }

    static void promise04YearsTooMany(Check check) {
        for (int y : Make.above(30)) {
            check.still("lies(1, " + y + ")", Make::rich, x -> x.lies(1, y), -2);
        }
    }

    static void promise04YearsLeastAndMost(Check check) {
        VillageRounds x = Make.fourSoils();
        check.due("lies(0, 0)", x.lies(0, 0), 30);
        check.due("lies(0, 30)", x.lies(0, 30), 0);
        check.due("of(0, 3)", x.of(0, 3), 30);
    }

    static void promise04NoneAheadOfBad(Check check) {
        check.still("lies(5, 31)", Make::rich, x -> x.lies(5, 31), -1);
        check.still("lies(-1, -1)", Make::rich, x -> x.lies(-1, -1), -1);
    }
}
