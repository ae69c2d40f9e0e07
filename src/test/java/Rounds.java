/** Promises 17 to 19: rounds that can be gone for ever, lying less, rains by chances. */
public final class Rounds {
    public static void main(String[] args) throws Exception {
        Suite.run(Rounds.class, 17, 18, 19);
    }

    /** Two plots too far apart for one village: it moves each year but the first. */
    private static VillageRounds mover() {
        VillageRounds x = Make.ruledHill(0, 1, "give 30 c=1;walk 8;move 5", 0, 20);
        x.set(1, 20);
        return x;
    }

    private static void ever(Check check, String told, VillageRounds x, int rule, int year, int years, int least) {
        check.due(told + ": the year", x.ever(rule, 0), year);
        check.due(told + ": how many years", x.ever(rule, 1), years);
        check.due(told + ": the least harvest", x.ever(rule, 2), least);
    }

    static void promise17RuleTooSmall(Check check) {
        for (int rule : Make.below(0)) {
            check.still("ever(" + rule + ", 0)", Make::rich, x -> x.ever(rule, 0), -1);
        }
    }

    static void promise17RuleTooLarge(Check check) {
        for (int rule : new int[] {7, 8, Integer.MAX_VALUE}) {
            check.still("ever(" + rule + ", 0)", Make::rich, x -> x.ever(rule, 0), -1);
        }
        check.still("ever(8, 0) of eight", Make::full, x -> x.ever(8, 0), -1);
    }

    static void promise17WhatTooSmall(Check check) {
        for (int what : Make.below(0)) {
            check.still("ever(0, " + what + ")", Make::rich, x -> x.ever(0, what), -1);
        }
    }

    static void promise17WhatTooLarge(Check check) {
        for (int what : Make.above(2)) {
            check.still("ever(0, " + what + ")", Make::rich, x -> x.ever(0, what), -1);
        }
    }

    static void promise17AskingChangesNothing(Check check) {
        int[] due = {5, 2, 25};
        for (int what = 0; what <= 2; what++) {
            int asked = what;
            check.still("ever(0, " + what + ")", Rounds::mover, x -> x.ever(0, asked), due[what]);
        }
    }

    static void promise17TheYearIsCountedFromNow(Check check) {
        VillageRounds x = mover();
        x.go(0, 7);
        ever(check, "behind seven years", x, 0, 2, 2, 25);
    }

    static void promise17AtOnce(Check check) {
        VillageRounds x = Make.rules();
        ever(check, "no plots", x, 0, 1, 1, 0);
        x.plot(0, 0);
        ever(check, "a plot that has lain 30", x, 0, 1, 1, 0);
        x.lies(0, 29);
        ever(check, "a plot that has lain 29", x, 0, 2, 1, 0);
        x.lies(0, 0);
        ever(check, "a plot that has lain 0", x, 0, 31, 1, 0);
    }

    static void promise17ARoundTurns(Check check) {
        VillageRounds x = new VillageRounds();
        x.rule(1, 7);
        x.rule(1, 1);
        x.rule(1, 30);
        for (int year = 0; year < 8; year++) {
            ever(check, "of 7 in year " + year, x, 0, 7, 7, 0);
            ever(check, "of 1 in year " + year, x, 1, 1, 1, 0);
            ever(check, "of 30 in year " + year, x, 2, 30, 30, 0);
            x.year(0, 0);
        }
    }

    static void promise17OnlyARoundTurns(Check check) {
        VillageRounds x = Make.rules();
        for (int rule = 0; rule < 7; rule++) {
            ever(check, "rule " + rule, x, rule, rule == 1 ? 3 : 1, rule == 1 ? 3 : 1, 0);
        }
    }

    static void promise17UnderCropForEver(Check check) {
        VillageRounds x = Make.hill("give 30 c>0", 0);
        x.rule(5, 1);
        x.rule(1, 1);
        ever(check, "by stay", x, 0, -9, -9, -9);
        ever(check, "by round", x, 1, -9, -9, -9);
    }

    /** Each of one plot and more is worn 9 in its ninth round of 22 years; then a round goes for ever. */
    static void promise17Year200AtMost(Check check) {
        VillageRounds x = Make.ruledHill(1, 22, "give 30 c=1;wear c=1");
        x.plot(0, 0);
        ever(check, "of one plot", x, 0, 199, 22, 0);
        x.plot(0, 0);
        ever(check, "of two", x, 0, 200, 22, 0);
        x.plot(0, 0);
        ever(check, "of three", x, 0, -9, -9, -9);
    }

    static void promise17TheLeastHarvestOfTheRoundAlone(Check check) {
        VillageRounds x = Make.ruledHill(1, 2, "give 10 y=0&c=1;give 20 y=1&c=1;give 1 y=30", 0, 0);
        ever(check, "1 and 1 ahead of the round", x, 0, 5, 2, 10);
    }

    static void promise17TheLeastHarvestIsNotTheFirstOrTheLast(Check check) {
        VillageRounds x = Make.hill("give 20 s=0;give 5 s=1;give 9 s=2");
        x.plot(0, 0);
        x.plot(1, 0);
        x.plot(2, 0);
        x.rule(1, 3);
        check.due("20, 5, 9", x.ever(0, 2), 5);
        x.year(0, 0);
        check.due("5, 9, 20", x.ever(0, 2), 5);
        x.year(0, 0);
        check.due("9, 20, 5", x.ever(0, 2), 5);
    }

    static void promise17TheRoundIsBeingGoneAlready(Check check) {
        VillageRounds x = Make.hill("give 20 s=0;give 5 s=1;give 9 s=2");
        x.plot(0, 0);
        x.plot(1, 0);
        x.plot(2, 0);
        x.rule(1, 3);
        x.go(0, 30);
        for (int turn = 0; turn < 3; turn++) {
            ever(check, "from turn " + turn + " on", x, 0, 3, 3, 5);
            x.go(0, 1);
        }
    }

    static void promise17MouthsNeverGrow(Check check) {
        VillageRounds x = Make.ruledHill(0, 1, "give 30 c=1;walk 8;move 5;grow 99", 0, 0, 20, 20);
        x.set(1, 20);
        check.due("ever(0, 2)", x.ever(0, 2), 30);
    }

    static void promise17WhereTheVillageStandsMatters(Check check) {
        VillageRounds x = Make.ruledHill(0, 1, "give 5 y=30&c<3;walk 0", 20);
        ever(check, "ahead of year 33 the plot alone is as at first", x, 0, 34, 33, 0);
    }

    static void promise17UnderCropIsNotLying(Check check) {
        VillageRounds x = Make.ruledHill(0, 1, "give 20 c=1", 0);
        ever(check, "lies, having lain 30; under crop; lies; under crop; lies", x, 0, 4, 2, 0);
        VillageRounds y = Make.ruledHill(0, 1, "give 20 c=1&!y=29", 0);
        y.lies(0, 29);
        ever(check, "lies once more ahead of that", y, 0, 5, 2, 0);
    }

    static void promise17HowLongItHadLainAheadOfTheCropMatters(Check check) {
        VillageRounds x = Make.ruledHill(0, 1, "give 20 c<3", 0);
        x.lies(0, 5);
        ever(check, "under crop, having lain 5, and then 0", x, 0, 6, 3, 0);
    }

    static void promise17HowWornMatters(Check check) {
        VillageRounds x = Make.ruledHill(0, 1, "give 30 c=1;wear c=1", 0);
        x.lies(0, 1);
        ever(check, "worn 9 ahead of year 17, and no more behind it", x, 0, 19, 2, 0);
    }

    static void promise17ThePlaceIsNotTheTurn(Check check) {
        VillageRounds x = Make.ruledHill(1, 30, "give 20 c=1;walk 0", 0);
        x.lies(0, 27);
        x.set(0, 1);
        ever(check, "at 1 in turn 0, at 0 in turn 29, the plot having lain 27", x, 0, 32, 30, 0);
    }

    static void promise18YearsTooFew(Check check) {
        for (int n : Make.below(1)) {
            check.still("less(" + n + ")", Make::rich, x -> x.less(n), -2);
        }
    }

    static void promise18YearsTooMany(Check check) {
        for (int n : Make.above(30)) {
            check.still("less(" + n + ")", Make::rich, x -> x.less(n), -2);
        }
    }

    static void promise18AskingChangesNothing(Check check) {
        check.still("less(1)", Make::rich, x -> x.less(1), 1);
        check.still("less(30)", Make::full, x -> x.less(30), -5);
    }

    /** Each plot gives one year, and is worn if it has lain less than three. */
    private static VillageRounds lying(int plots) {
        VillageRounds x = Make.hill("give 30 c=1;give 5 y<3;wear y<3", new int[plots]);
        x.set(1, 20);
        return x;
    }

    static void promise18TheLeast(Check check) {
        check.due("three years of four plots", lying(4).less(3), 1);
        check.due("four years of four plots", lying(4).less(4), 2);
        check.due("five years of five", lying(5).less(5), 3);
        check.due("thirty years of five", lying(5).less(30), 3);
    }

    static void promise18NoSuchNumber(Check check) {
        check.due("five years of four plots", lying(4).less(5), -5);
        check.due("no plots", new VillageRounds().less(1), -5);
        check.due("no plots", new VillageRounds().less(30), -5);
    }

    static void promise18VLeastAndMost(Check check) {
        check.due("1", Make.hill("give 30 c>0", 0).less(30), 1);
        VillageRounds x = Make.hill("give 5 y=30;give 31 y=29;wear y=29", 0, 0);
        x.lies(0, 29);
        x.set(1, 5);
        check.due("30", x.less(1), 30);
    }

    static void promise18AsManyAsMouthsIsNotHungry(Check check) {
        VillageRounds x = Make.hill("give 30 c>0", 0);
        x.set(1, 30);
        check.due("30 mouths", x.less(30), 1);
        x.set(1, 31);
        check.due("31 mouths", x.less(1), -5);
    }

    static void promise18NoMoreWornThanNow(Check check) {
        VillageRounds x = Make.hill("give 30 c>0;wear c=1", 0);
        check.due("worn in the first year", x.less(1), -5);
        x.year(1, 0);
        check.due("worn already", x.less(1), 1);
        VillageRounds y = Make.hill("give 30 c=1;wear c=1", 0);
        for (int i = 0; i < 9; i++) {
            y.year(1, 0);
            y.lies(0, 30);
        }
        check.due("worn 9 already", y.less(1), 1);
    }

    static void promise18MouthsGrow(Check check) {
        VillageRounds x = Make.hill("give 30 c>0;grow 50", 0);
        check.due("10, 15, 23", x.less(3), 1);
        check.due("and 35", x.less(4), -5);
    }

    private static void fraction(Check check, String told, VillageRounds x, int n, long above, long below) {
        check.due(told + ", above", x.safe(0, n, 0), above);
        check.due(told + ", below", x.safe(0, n, 1), below);
    }

    /** One plot that gives 31 each year. */
    private static VillageRounds rainy(String land, int mouths) {
        VillageRounds x = Make.ruledHill(0, 1, "give 31 c>0;" + land, 0);
        x.set(1, mouths);
        return x;
    }

    static void promise19RuleTooSmall(Check check) {
        for (int rule : Make.below(0)) {
            check.still("safe(" + rule + ", 3, 0)", Make::rich, x -> x.safe(rule, 3, 0), Long.MIN_VALUE);
        }
    }

    static void promise19RuleTooLarge(Check check) {
        for (int rule : new int[] {7, 8, Integer.MAX_VALUE}) {
            check.still("safe(" + rule + ", 3, 0)", Make::rich, x -> x.safe(rule, 3, 0), Long.MIN_VALUE);
        }
        check.still("safe(8, 3, 0) of eight", Make::full, x -> x.safe(8, 3, 0), Long.MIN_VALUE);
    }

    static void promise19YearsTooFew(Check check) {
        for (int n : Make.below(1)) {
            check.still("safe(0, " + n + ", 1)", Make::rich, x -> x.safe(0, n, 1), Long.MIN_VALUE);
        }
    }

    static void promise19YearsTooMany(Check check) {
        for (int n : Make.above(6)) {
            check.still("safe(0, " + n + ", 1)", Make::rich, x -> x.safe(0, n, 1), Long.MIN_VALUE);
        }
    }

    static void promise19PartTooSmall(Check check) {
        for (int part : Make.below(0)) {
            check.still("safe(0, 3, " + part + ")", Make::rich, x -> x.safe(0, 3, part), Long.MIN_VALUE);
        }
    }

    static void promise19PartTooLarge(Check check) {
        for (int part : Make.above(1)) {
            check.still("safe(0, 3, " + part + ")", Make::rich, x -> x.safe(0, 3, part), Long.MIN_VALUE);
        }
    }

    static void promise19AskingChangesNothing(Check check) {
        check.still("safe(0, 1, 0)", Make::rich, x -> x.safe(0, 1, 0), 7);
        check.still("safe(0, 1, 1)", Make::rich, x -> x.safe(0, 1, 1), 10);
    }

    static void promise19OneToSixYears(Check check) {
        long above = 1;
        long below = 1;
        for (int n = 1; n <= 6; n++) {
            above *= 7;
            below *= 10;
            fraction(check, n + " years", rainy("dry 3", 16), n, above, below);
        }
    }

    static void promise19LowestTerms(Check check) {
        fraction(check, "5 of 10, twice", rainy("dry 5", 16), 2, 1, 4);
        fraction(check, "8 of 10, six times", rainy("dry 2", 16), 6, 4096, 15625);
        fraction(check, "1 of 10, six times", rainy("dry 9", 16), 6, 1, 1000000);
    }

    static void promise19NeverSafe(Check check) {
        fraction(check, "hungry though wet", rainy("dry 3", 32), 1, 0, 1);
        fraction(check, "hungry though wet", rainy("dry 3", 32), 6, 0, 1);
        VillageRounds x = Make.ruledHill(0, 1, "give 31 c=1;dry 3", 0);
        x.set(1, 31);
        fraction(check, "hungry in the second year", x, 1, 7, 10);
        fraction(check, "hungry in the second year", x, 2, 0, 1);
    }

    static void promise19AlwaysSafe(Check check) {
        fraction(check, "half is enough", rainy("dry 3", 15), 6, 1, 1);
    }

    static void promise19HalfIsCut(Check check) {
        fraction(check, "15 mouths", rainy("dry 3", 15), 1, 1, 1);
        fraction(check, "16 mouths", rainy("dry 3", 16), 1, 7, 10);
    }

    static void promise19AsManyAsMouthsIsNotHungry(Check check) {
        fraction(check, "31 mouths", rainy("dry 3", 31), 1, 7, 10);
        fraction(check, "32 mouths", rainy("dry 3", 32), 1, 0, 1);
    }

    static void promise19NoneDry(Check check) {
        fraction(check, "dry 0 without", rainy("grow 0", 16), 6, 1, 1);
        fraction(check, "dry 0", rainy("dry 0", 16), 6, 1, 1);
    }

    static void promise19AllDry(Check check) {
        fraction(check, "dry 10, half is not enough", rainy("dry 10", 16), 1, 0, 1);
        fraction(check, "dry 10, half is enough", rainy("dry 10", 15), 6, 1, 1);
        fraction(check, "dry 99 is 10", rainy("dry 99", 16), 1, 0, 1);
        fraction(check, "dry 99 is 10", rainy("dry 99", 15), 6, 1, 1);
    }

    static void promise19MouthsGrow(Check check) {
        fraction(check, "15", rainy("dry 3;grow 1", 15), 1, 1, 1);
        fraction(check, "15, 16", rainy("dry 3;grow 1", 15), 2, 7, 10);
        fraction(check, "15, 30, 60", rainy("dry 3;grow 99", 15), 2, 7, 10);
        fraction(check, "15, 30, 60", rainy("dry 3;grow 99", 15), 3, 0, 1);
    }

    static void promise19HalfOfWhatAllGiveLessMove(Check check) {
        VillageRounds x = Make.ruledHill(0, 1, "give 30 c=1;walk 8;move 5;dry 3", 20);
        x.set(1, 10);
        fraction(check, "15 less 5", x, 1, 1, 1);
        x.set(1, 11);
        fraction(check, "15 less 5", x, 1, 7, 10);
    }

    static void promise19NoPlots(Check check) {
        fraction(check, "no plots", Make.rules(), 6, 0, 1);
    }
}
