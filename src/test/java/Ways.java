/** Promises 20 to 23: two villages, what a way is worth, ages of forest and the rounds they tell. */
public final class Ways {
    public static void main(String[] args) throws Exception {
        Suite.run(Ways.class, 20, 21, 22, 23);
    }

    private static VillageRounds twoNearOneFar(int mouths) {
        VillageRounds x = Make.hill("give 10 c=1;walk 8", 0, 0, 20);
        x.set(1, mouths);
        return x;
    }

    static void promise20PlaceTooSmall(Check check) {
        for (int place : Make.below(0)) {
            check.still("two(" + place + ")", Make::rich, x -> x.two(place), -2);
        }
    }

    static void promise20PlaceTooLarge(Check check) {
        for (int place : Make.above(40)) {
            check.still("two(" + place + ")", Make::rich, x -> x.two(place), -2);
        }
    }

    static void promise20PlaceLeastAndMost(Check check) {
        check.due("two(0)", twoNearOneFar(20).two(0), 4);
        VillageRounds x = Make.hill("give 10 c=1;walk 8", 0, 32);
        check.due("two(40)", x.two(40), 1);
    }

    /** From 9 they give 19, 10, 20, 19, 0; from 18 nothing, nothing, 20, 19, 20; half of 32 is 16. */
    static void promise20AskingChangesNothing(Check check) {
        check.still("two(18)", Make::rich, x -> x.two(18), 24);
    }

    static void promise20HowManySets(Check check) {
        check.due("the other at 20", twoNearOneFar(20).two(20), 3);
        check.due("the other here", twoNearOneFar(20).two(0), 4);
        check.due("the other where nothing is near", twoNearOneFar(20).two(40), 0);
    }

    static void promise20HalfRoundedUp(Check check) {
        check.due("19 mouths", twoNearOneFar(19).two(20), 3);
        check.due("20 mouths", twoNearOneFar(20).two(20), 3);
        check.due("21 mouths", twoNearOneFar(21).two(20), 0);
        VillageRounds x = Make.hill("give 50 c=1", 0, 0);
        x.set(1, 99);
        check.due("99 mouths", x.two(0), 2);
        Make.land(x, "give 49 c=1");
        check.due("99 mouths", x.two(0), 0);
    }

    static void promise20OneMouth(Check check) {
        VillageRounds x = Make.hill("give 1 c=1", 0, 0);
        x.set(1, 1);
        check.due("neither may go without", x.two(0), 2);
        VillageRounds y = Make.hill("give 99 c=1", 0);
        y.set(1, 1);
        check.due("one plot is not for both", y.two(0), 0);
    }

    static void promise20NoPlots(Check check) {
        VillageRounds x = new VillageRounds();
        x.set(1, 1);
        check.due("two(0)", x.two(0), 0);
    }

    static void promise20AllOfEight(Check check) {
        VillageRounds x = Make.hill("give 10 c=1", new int[8]);
        check.due("all but none and all", x.two(0), 254);
        x.set(1, 80);
        check.due("four and four", x.two(0), 70);
        x.set(1, 81);
        check.due("two(0)", x.two(0), 0);
    }

    private static VillageRounds fourWays() {
        return Make.hill("give 10 c=1;walk 8", 0, 0, 20, 30);
    }

    static void promise21MoreTooSmall(Check check) {
        for (int n : Make.below(0)) {
            check.still("way(" + n + ")", Make::rich, x -> x.way(n), -2);
        }
    }

    static void promise21MoreTooLarge(Check check) {
        for (int n : Make.above(40)) {
            check.still("way(" + n + ")", Make::rich, x -> x.way(n), -2);
        }
    }

    static void promise21MoreLeastAndMost(Check check) {
        check.due("way(0)", fourWays().way(0), 0);
        check.due("way(40)", fourWays().way(40), 20);
        VillageRounds x = Make.hill("give 10 c=1;walk 0", 40);
        check.due("way(39)", x.way(39), 0);
        check.due("way(40)", x.way(40), 10);
    }

    static void promise21JustAsFar(Check check) {
        int[] more = {11, 12, 21, 22};
        int[] worth = {0, 10, 10, 20};
        for (int i = 0; i < 4; i++) {
            check.due("way(" + more[i] + ")", fourWays().way(more[i]), worth[i]);
        }
        VillageRounds x = fourWays();
        x.set(0, 10);
        check.due("way(1) from 10", x.way(1), 0);
        check.due("way(2) from 10", x.way(2), 30);
    }

    static void promise21AskingChangesNothing(Check check) {
        check.still("way(0)", Make::rich, x -> x.way(0), 0);
        check.still("way(1)", Make::rich, x -> x.way(1), 20);
    }

    static void promise21Walk99(Check check) {
        check.due("without walk", Make.hill("give 10 c=1", 40).way(40), 0);
        check.due("walk 99", Make.hill("give 10 c=1;walk 99", 40).way(40), 0);
    }

    static void promise21NoPlots(Check check) {
        check.due("way(40)", new VillageRounds().way(40), 0);
    }

    static void promise22HowMany(Check check) {
        VillageRounds x = new VillageRounds();
        for (int i = 1; i <= 10; i++) {
            check.due("age", x.age(9 * i), i);
            check.due("count(6)", x.count(6), i);
        }
    }

    static void promise22AgeTooSmall(Check check) {
        for (int age : Make.below(-1)) {
            check.still("age(" + age + ")", Make::rich, x -> x.age(age), -2);
        }
    }

    static void promise22AgeTooLarge(Check check) {
        for (int age : Make.above(99)) {
            check.still("age(" + age + ")", Make::rich, x -> x.age(age), -2);
        }
    }

    static void promise22AgeLeastAndMost(Check check) {
        VillageRounds x = new VillageRounds();
        check.due("age(0)", x.age(0), 1);
        check.due("age(99)", x.age(99), 2);
    }

    static void promise22TenAtMost(Check check) {
        VillageRounds x = new VillageRounds();
        for (int i = 0; i < 9; i++) {
            x.age(7);
        }
        check.due("the tenth", x.age(7), 10);
        check.due("the eleventh", x.age(7), -4);
    }

    static void promise22FullChangesNothing(Check check) {
        check.still("age(5)", Make::full, x -> x.age(5), -4);
    }

    static void promise22BadAheadOfFull(Check check) {
        check.still("age(100)", Make::full, x -> x.age(100), -2);
        check.still("age(-2)", Make::full, x -> x.age(-2), -2);
    }

    static void promise22Minus1Empties(Check check) {
        VillageRounds x = Make.full();
        check.due("age(-1) of full ones", x.age(-1), 0);
        check.due("count(6)", x.count(6), 0);
        check.due("age(-1) of none", x.age(-1), 0);
        check.due("the first again", x.age(5), 1);
    }

    static void promise23NumberTooSmall(Check check) {
        for (int n : Make.below(0)) {
            check.still("round(" + n + ")", Make::rich, x -> x.round(n), -2);
        }
    }

    static void promise23NumberTooLarge(Check check) {
        for (int n : Make.above(9)) {
            check.still("round(" + n + ")", Make::rich, x -> x.round(n), -2);
        }
    }

    static void promise23AskingChangesNothing(Check check) {
        check.still("round(0)", Make::rich, x -> x.round(0), 1);
        check.still("round(9)", Make::full, x -> x.round(9), 1);
    }

    static void promise23NoAges(Check check) {
        check.due("round(0)", new VillageRounds().round(0), 1);
        check.due("round(9)", new VillageRounds().round(9), 1);
    }

    /** By the document's words a round of 1 tells every age: it is a multiple of 1. */
    static void promise23ARoundOf1TellsEachAge(Check check) {
        for (int age = 0; age <= 99; age++) {
            VillageRounds x = new VillageRounds();
            x.age(99 - age);
            x.age(age);
            check.due("round(0) of " + age, x.round(0), 1);
        }
    }
}
