/** Promises 9 and 13: a year told by hand, and years that go by a rule. */
public final class Years {
    public static void main(String[] args) throws Exception {
        Suite.run(Years.class, 9, 13);
    }

    static void promise09Harvest(Check check) {
        VillageRounds x = Make.hill("give 20 c=1;give 8 c=2;walk 8", 2, 5, 9);
        check.due("both near", x.year(3, 0), 40);
        check.due("in the second year, and one that is far", x.year(5, 0), 8);
        check.due("all, from 1", x.year(7, 1), 28);
    }

    static void promise09SetsTooSmall(Check check) {
        for (int set : Make.below(0)) {
            check.still("year(" + set + ", 3)", Make::rich, x -> x.year(set, 3), -1002);
        }
    }

    static void promise09SetsWithBitsOfNoneSuch(Check check) {
        for (int set : new int[] {32, 33, 128, 255, 256, 1 << 30, Integer.MAX_VALUE}) {
            check.still("year(" + set + ", 3)", Make::rich, x -> x.year(set, 3), -1002);
        }
        check.still("year(256, 3) of eight", Make::full, x -> x.year(256, 3), -1002);
    }

    static void promise09SetsLeastAndMost(Check check) {
        VillageRounds x = Make.hill("give 5 c>0");
        for (int plots = 0; plots <= 8; plots++) {
            check.due("no plot of " + plots, x.year(0, 0), 0);
            check.due("all " + plots, x.year((1 << plots) - 1, 0), 5 * plots);
            check.due("one more than " + plots, x.year(1 << plots, 0), -1002);
            x.plot(0, 0);
        }
    }

    static void promise09PlaceTooSmall(Check check) {
        for (int place : Make.below(0)) {
            check.still("year(3, " + place + ")", Make::rich, x -> x.year(3, place), -1002);
        }
    }

    static void promise09PlaceTooLarge(Check check) {
        for (int place : Make.above(40)) {
            check.still("year(3, " + place + ")", Make::rich, x -> x.year(3, place), -1002);
        }
    }

    static void promise09PlaceLeastAndMost(Check check) {
        VillageRounds x = new VillageRounds();
        check.due("year(0, 40)", x.year(0, 40), 0);
        check.due("stands at", x.set(0, 7), 40);
        check.due("year(0, 0)", x.year(0, 0), 0);
        check.due("stands at", x.set(0, 7), 0);
    }

    static void promise09TheVillageMovesFirst(Check check) {
        VillageRounds x = Make.hill("give 20 c=1;walk 8", 0, 20);
        check.due("from 20", x.year(3, 20), 20);
        check.due("stands at", x.set(0, 20), 20);
    }

    static void promise09LessMove(Check check) {
        VillageRounds x = Make.hill("give 20 c=1;move 5", 0);
        check.due("to another place", x.year(1, 1), 15);
        x.lies(0, 30);
        check.due("and back", x.year(1, 0), 15);
    }

    static void promise09NoMoveToTheSamePlace(Check check) {
        VillageRounds x = Make.hill("give 20 c=1;move 5", 0);
        check.due("stays at 0", x.year(1, 0), 20);
        x.set(0, 30);
        x.lies(0, 30);
        check.due("stays at 30", x.year(1, 30), 20);
    }

    static void promise09HarvestBelow0(Check check) {
        VillageRounds x = Make.hill("give 20 c=1;move 99", 0);
        check.due("nothing burnt", x.year(0, 1), -99);
        check.due("less than move costs", x.year(1, 2), -79);
    }

    static void promise09Harvest0(Check check) {
        check.due("as much as move costs", Make.hill("give 5 c=1;move 5", 0).year(1, 1), 0);
    }

    static void promise09BurntThoughItGivesNothing(Check check) {
        VillageRounds x = Make.hill("give 5 c=1;walk 8;wear c=1", 20);
        check.due("far", x.year(1, 0), 0);
        check.due("under crop", x.of(0, 2), 1);
        check.due("worn", x.of(0, 4), 1);
    }

    static void promise09TheNextYearUnderCrop(Check check) {
        VillageRounds x = Make.hill("give 5 c=1;give 3 c=2", 0);
        int[] harvests = {5, 3, 0};
        for (int i = 0; i < 3; i++) {
            check.due("harvest", x.year(1, 0), harvests[i]);
            check.due("which year", x.of(0, 2), i + 1);
        }
    }

    static void promise09BehindCropLain0(Check check) {
        VillageRounds x = Make.hill("", 0);
        x.year(1, 0);
        x.year(0, 0);
        check.due("lies", x.of(0, 2), 0);
        check.due("has lain", x.of(0, 3), 0);
        x.year(0, 0);
        check.due("has lain", x.of(0, 3), 1);
        x.year(1, 0);
        check.due("had lain", x.of(0, 3), 1);
    }

    static void promise09More30Stays30(Check check) {
        VillageRounds x = Make.hill("", 0);
        x.lies(0, 28);
        int[] lain = {29, 30, 30, 30};
        for (int want : lain) {
            x.year(0, 0);
            check.due("has lain", x.of(0, 3), want);
        }
    }

    static void promise09Worn1More(Check check) {
        VillageRounds x = Make.hill("wear y<6;wear y<5", 0, 0);
        x.lies(0, 4);
        x.lies(1, 6);
        x.year(3, 0);
        check.due("though two hold", x.of(0, 4), 1);
        check.due("none holds", x.of(1, 4), 0);
        x.year(3, 0);
        check.due("not in the second year", x.of(0, 4), 1);
    }

    static void promise09Worn9AtMost(Check check) {
        VillageRounds x = Make.hill("wear c=1", 0);
        for (int i = 1; i <= 11; i++) {
            x.year(1, 0);
            x.lies(0, 0);
            check.due("worn in year " + i, x.of(0, 4), Math.min(i, 9));
        }
    }

    static void promise09MouthsGrowCut(Check check) {
        VillageRounds x = Make.hill("grow 10");
        int[] mouths = {10, 11, 13, 15, 17};
        for (int i = 0; i < 5; i++) {
            check.due("mouths in year " + i, x.set(1, mouths[i]), mouths[i]);
            x.year(0, 0);
        }
    }

    static void promise09AnyGrowthIsOneAtLeast(Check check) {
        VillageRounds x = Make.hill("grow 1");
        for (int mouths : new int[] {1, 50, 98}) {
            x.set(1, mouths);
            x.year(0, 0);
            check.due("from " + mouths, x.set(1, 1), mouths + 1);
        }
    }

    static void promise09NoGrowth(Check check) {
        VillageRounds x = Make.hill("grow 0");
        for (int mouths : new int[] {1, 50, 99}) {
            x.set(1, mouths);
            x.year(0, 0);
            check.due("from " + mouths, x.set(1, 1), mouths);
        }
    }

    static void promise09Mouths99AtMost(Check check) {
        VillageRounds x = Make.hill("grow 10");
        int[] from = {89, 90, 91, 99};
        int[] to = {98, 99, 99, 99};
        for (int i = 0; i < 4; i++) {
            x.set(1, from[i]);
            x.year(0, 0);
            check.due("from " + from[i], x.set(1, 1), to[i]);
        }
    }

    static void promise09YearIsOneMore(Check check) {
        VillageRounds x = Make.fourSoils();
        for (int year = 1; year <= 40; year++) {
            x.year(year % 16, year % 41);
            check.due("count(3)", x.count(3), year);
        }
    }

    private static VillageRounds twoPlots() {
        VillageRounds x = Make.ruledHill(0, 1, "give 30 c=1;walk 8", 2, 5);
        x.set(1, 20);
        return x;
    }

    static void promise13RuleTooSmall(Check check) {
        for (int rule : Make.below(0)) {
            check.still("go(" + rule + ", 3)", Make::rich, x -> x.go(rule, 3), -1);
        }
    }

    static void promise13RuleTooLarge(Check check) {
        for (int rule : new int[] {7, 8, Integer.MAX_VALUE}) {
            check.still("go(" + rule + ", 3)", Make::rich, x -> x.go(rule, 3), -1);
        }
        check.still("go(8, 3) of eight", Make::full, x -> x.go(8, 3), -1);
    }

    static void promise13YearsTooFew(Check check) {
        for (int n : Make.below(1)) {
            check.still("go(0, " + n + ")", Make::rich, x -> x.go(0, n), -2);
        }
    }

    static void promise13YearsTooMany(Check check) {
        for (int n : Make.above(30)) {
            check.still("go(0, " + n + ")", Make::rich, x -> x.go(0, n), -2);
        }
    }

    static void promise13NoneAheadOfBad(Check check) {
        check.still("go(7, 31)", Make::rich, x -> x.go(7, 31), -1);
        check.still("go(-1, 0)", Make::rich, x -> x.go(-1, 0), -1);
    }

    static void promise13YearsLeastAndMost(Check check) {
        VillageRounds x = twoPlots();
        check.due("go(0, 1)", x.go(0, 1), 0);
        check.due("count(3)", x.count(3), 1);
        check.due("go(0, 30)", x.go(0, 30), 0);
        check.due("count(3)", x.count(3), 31);
    }

    static void promise13TheEighthRule(Check check) {
        check.due("go(7, 1)", Make.full().go(7, 1), 0);
    }

    static void promise13HowManyWereHungry(Check check) {
        VillageRounds x = twoPlots();
        check.due("never", x.go(0, 5), 0);
        check.due("the first is under crop", x.of(0, 2), 1);
        check.due("the second lies", x.of(1, 3), 0);
        x.year(0, 0);
        x.set(1, 40);
        check.due("every other year", x.go(0, 4), 2);
        check.due("of thirty", x.go(0, 30), 15);
        Make.land(x, "give 1 c=1");
        check.due("always", x.go(0, 30), 30);
    }

    static void promise13AsManyAsMouthsIsNotHungry(Check check) {
        VillageRounds x = Make.ruledHill(0, 1, "give 30 c>0", 0);
        x.set(1, 30);
        check.due("30 mouths", x.go(0, 5), 0);
        x.set(1, 31);
        check.due("31 mouths", x.go(0, 5), 5);
    }

    static void promise13TheVillageMoves(Check check) {
        VillageRounds x = Make.ruledHill(0, 1, "give 30 c=1|c=2;walk 8;move 5;grow 3", 20);
        x.set(1, 29);
        check.due("the move makes the first one hungry", x.go(0, 2), 1);
        check.due("stands at", x.set(0, 20), 20);
        check.due("mouths grew", x.set(1, 31), 31);
        check.due("nothing in the third year", x.go(0, 1), 1);
    }

    static void promise13MouthsGrowTo99(Check check) {
        VillageRounds x = Make.ruledHill(0, 1, "give 97 c>0;grow 1", 0);
        x.set(1, 96);
        check.due("96, 97, 98, 99, 99", x.go(0, 5), 3);
        check.due("mouths", x.set(1, 1), 99);
    }

    static void promise13ManyYears(Check check) {
        VillageRounds x = Make.ruledHill(1, 7, "give 9 c=1", 0, 0);
        x.rule(1, 1);
        x.rule(0, 1);
        for (int i = 0; i < 483; i++) {
            x.go(1, 30);
        }
        check.due("the year", x.count(3), 14490);
        check.due("which year under crop", x.of(0, 2), 14490);
        check.due("had lain", x.of(0, 3), 30);
        check.due("14490 modulo 7", x.burns(0), 1);
        x.go(1, 1);
        check.due("14491 modulo 7", x.burns(0), 2);
        check.due("the round goes on", x.ever(0, 1), 7);
        check.due("never as it was", x.ever(1, 0), -9);
        check.due("none gives", x.burns(2), 0);
    }

    static void promise13NoPlots(Check check) {
        VillageRounds x = Make.ruledHill(0, 1, "give 9 c=1");
        check.due("go(0, 30)", x.go(0, 30), 30);
        check.due("count(3)", x.count(3), 30);
    }
}
