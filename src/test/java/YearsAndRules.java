/** Promises 9 to 13: years, rules, what they have burnt, where the village moves, years by a rule. */
public final class YearsAndRules {
    private static final Check CHECK = new Check();

    public static void main(String[] args) {
        year();
        yearGrows();
        rule();
        burnsRule();
        burnsRound();
        burnsRest();
        burnsNear();
        burnsBest();
        burnsStay();
        burnsLong();
        moves();
        movesByKinds();
        go();
        CHECK.end("YearsAndRules");
    }

    private static void due(String call, long got, long want) {
        CHECK.due(call, got, want);
    }

    /** Four plots that give 10, 20, 20, 5 in every year, at 2, 5, 9, 20. */
    private static VillageRounds hill() {
        VillageRounds x = new VillageRounds();
        x.plot(0, 2);
        x.plot(1, 5);
        x.plot(2, 9);
        x.plot(3, 20);
        Check.land(x, "give 10 s=0;give 20 s=1|s=2;give 5 s=3");
        return x;
    }

    private static int burns(VillageRounds x, int rule, int mouths) {
        x.set(1, mouths);
        return x.burns(rule);
    }

    private static void year() {
        VillageRounds x = hill();
        Check.land(x, "give 20 c=1;give 8 c=2;walk 8;move 5");
        due("9 bits of none such", x.year(16, 0), -1002);
        due("9 bits of none such", x.year(-1, 0), -1002);
        due("9 no place", x.year(0, 41), -1002);
        due("9 no place", x.year(0, -1), -1002);
        due("9 no year was", x.count(3), 0);
        due("9 both near", x.year(3, 0), 40);
        due("9 a year more", x.count(3), 1);
        due("9 moved to another place", x.year(1, 1), 3);
        due("9 stands there", x.set(0, 1), 1);
        due("9 nothing, moved", x.year(0, 40), -5);
        due("9 nothing, stayed", x.year(0, 40), 0);
        due("9 all far", x.year(7, 40), 0);
        due("9 burnt though far", x.of(2, 2), 1);
        x.lies(3, 29);
        x.year(0, 40);
        due("9 lain more", x.of(3, 3), 30);
        x.year(0, 40);
        due("9 lain 30 at most", x.of(3, 3), 30);
        due("9 lain from 0 on", x.of(0, 3), 1);
        due("9 all bits of plots", x.year(15, 40), 0);
        VillageRounds y = hill();
        due("9 moving costs nothing without move", y.year(1, 7), 10);
    }

    private static void yearGrows() {
        VillageRounds x = hill();
        Check.land(x, "grow 10");
        int[] mouths = {10, 11, 13, 15};
        for (int i = 0; i < 4; i++) {
            due("9 mouths in year " + i, x.set(1, mouths[i]), mouths[i]);
            x.year(0, 0);
        }
        Check.land(x, "grow 99;grow 1");
        x.set(1, 99);
        x.year(0, 0);
        due("9 mouths 99 at most", x.set(1, 50), 99);
        x.year(0, 0);
        due("9 the last grow holds", x.set(1, 50), 51);
        Check.land(x, "walk 3");
        x.year(0, 0);
        due("9 none grow without grow", x.set(1, 50), 50);
    }

    private static void rule() {
        VillageRounds x = new VillageRounds();
        due("10 kind -1", x.rule(-1, 1), -1);
        due("10 NONE ahead of BAD", x.rule(7, 0), -1);
        due("10 v 0", x.rule(0, 0), -2);
        due("10 v 31", x.rule(6, 31), -2);
        for (int i = 0; i < 8; i++) {
            due("10 rule " + i, x.rule(i % 7, i % 2 == 0 ? 1 : 30), i);
        }
        due("10 ninth", x.rule(0, 1), -4);
        due("10 NONE ahead of FULL", x.rule(7, 1), -1);
        due("10 BAD ahead of FULL", x.rule(0, 0), -2);
        due("10 eight", x.count(1), 8);
    }

    private static void burnsRule() {
        VillageRounds x = hill();
        x.rule(0, 3);
        due("11 no such rule", x.burns(1), -1);
        due("11 no such rule", x.burns(-1), -1);
        due("11 the least of like ones", burns(x, 0, 20), 2);
        due("11 till mouths", burns(x, 0, 21), 6);
        due("11 till mouths", burns(x, 0, 45), 7);
        due("11 all that give", burns(x, 0, 99), 15);
        Check.land(x, "give 5 s=0;give 1 s=1");
        due("11 one that gives 1", burns(x, 0, 6), 3);
        Check.land(x, "give 9 c=1;walk 8");
        due("11 none that gives 0", burns(x, 0, 99), 3);
        due("11 asked changes nothing", x.of(0, 2), 0);
    }

    private static void burnsRound() {
        VillageRounds x = hill();
        x.rule(1, 2);
        x.rule(1, 3);
        x.rule(1, 30);
        x.rule(1, 1);
        int[] two = {5, 10, 5, 10};
        int[] three = {9, 2, 4, 9};
        int[] thirty = {1, 2, 4, 8};
        for (int i = 0; i < 4; i++) {
            due("11 round of 2", x.burns(0), two[i]);
            due("11 round of 3", x.burns(1), three[i]);
            due("11 round of 30", x.burns(2), thirty[i]);
            due("11 round of 1", x.burns(3), 15);
            x.year(0, 0);
        }
        due("11 round of 30", x.burns(2), 0);
        Check.land(x, "walk 1");
        due("11 a round burns what gives 0, too", x.burns(3), 15);
    }

    private static void burnsRest() {
        VillageRounds x = hill();
        x.rule(2, 10);
        x.lies(1, 9);
        due("11 lain less than v", burns(x, 0, 20), 4);
        x.lies(1, 10);
        due("11 lain v", burns(x, 0, 20), 2);
        x.lies(1, 3);
        x.year(2, 0);
        due("11 under crop", burns(x, 0, 20), 2);
        x.year(2, 0);
        x.year(0, 0);
        due("11 lies again", burns(x, 0, 99), 13);
    }

    private static void burnsNear() {
        VillageRounds x = hill();
        x.rule(3, 30);
        x.rule(3, 14);
        x.rule(3, 13);
        x.rule(3, 3);
        x.set(0, 6);
        due("11 nearest", burns(x, 0, 20), 2);
        due("11 then the next", burns(x, 0, 30), 6);
        due("11 then the next", burns(x, 0, 41), 7);
        due("11 all", burns(x, 0, 99), 15);
        due("11 as far as v", burns(x, 1, 99), 15);
        due("11 none farther", burns(x, 2, 99), 7);
        due("11 none farther", burns(x, 3, 99), 6);
        x.set(0, 7);
        due("11 like near: the least of like ones", burns(x, 0, 1), 2);
        Check.land(x, "give 5 s=1;give 6 s=2;give 50 s=3");
        due("11 like near: the one that gives most", burns(x, 0, 1), 4);
        x.set(0, 2);
        due("11 none that gives 0, though nearest", burns(x, 0, 1), 2);
    }

    private static void burnsBest() {
        VillageRounds x = hill();
        x.rule(4, 1);
        due("11 one, the least that does", burns(x, 0, 5), 8);
        due("11 one", burns(x, 0, 10), 1);
        due("11 of like ones the least bits", burns(x, 0, 20), 2);
        due("11 two, giving least", burns(x, 0, 25), 10);
        due("11 two", burns(x, 0, 30), 3);
        due("11 two", burns(x, 0, 31), 6);
        due("11 three, giving least", burns(x, 0, 45), 14);
        due("11 all four", burns(x, 0, 55), 15);
        due("11 no such set", burns(x, 0, 56), 15);
        Check.land(x, "give 10 s<2;give 20 s=2;give 3 s=3");
        due("11 one, though two with lower bits do", burns(x, 0, 20), 4);
        Check.land(x, "give 9 s<2");
        due("11 all that give anything, and no other", burns(x, 0, 19), 3);
        Check.land(x, "give 1 s>1");
        due("11 all that give anything", burns(x, 0, 19), 12);
        Check.land(x, "give 9 s>1");
        due("11 all that give anything", burns(x, 0, 19), 12);
        VillageRounds y = new VillageRounds();
        y.plot(0, 0);
        y.rule(4, 1);
        Check.land(y, "give 9 c=1");
        due("11 one plot", burns(y, 0, 9), 1);
        Check.land(y, "walk 1");
        due("11 none give", burns(y, 0, 1), 0);
    }

    private static void burnsStay() {
        VillageRounds x = hill();
        x.rule(5, 10);
        x.year(8, 0);
        due("11 under crop first", burns(x, 0, 5), 8);
        due("11 then as rest", burns(x, 0, 25), 10);
        x.lies(1, 9);
        due("11 lain less than v", burns(x, 0, 25), 12);
        due("11 lain less than v", burns(x, 0, 99), 13);
        x.year(9, 0);
        due("11 of those under crop the one that gives most", burns(x, 0, 10), 1);
        due("11 of those under crop the next", burns(x, 0, 11), 9);
        Check.land(x, "give 9 s=2");
        due("11 none that gives 0", burns(x, 0, 9), 4);
    }

    private static void burnsLong() {
        VillageRounds x = hill();
        x.rule(6, 2);
        x.rule(6, 1);
        x.rule(6, 3);
        x.lies(0, 1);
        due("11 lain less than v", burns(x, 0, 99), 14);
        due("11 lain v", burns(x, 1, 99), 15);
        x.year(15, 0);
        due("11 in its first year", burns(x, 0, 99), 15);
        due("11 in its v-th year", burns(x, 1, 99), 0);
        x.year(15, 0);
        due("11 in its v-th year", burns(x, 0, 99), 0);
        due("11 in the year ahead of it", burns(x, 2, 99), 15);
        x.year(15, 0);
        due("11 in a later year", burns(x, 0, 99), 0);
    }

    private static VillageRounds mover(int move) {
        VillageRounds x = hill();
        Check.land(x, "give 20 c=1;walk 8;move " + move);
        x.rule(0, 1);
        x.set(1, 50);
        return x;
    }

    private static void moves() {
        VillageRounds x = mover(5);
        due("12 no such rule", x.moves(1), -1);
        due("12 no such rule", x.moves(-1), -1);
        due("12 where most is, of several the least", x.moves(0), 2);
        due("12 asked changes nothing", x.set(0, 0), 0);
        x.set(1, 40);
        due("12 fed here", x.moves(0), 0);
        x.set(1, 41);
        due("12 hungry here", x.moves(0), 2);
        due("12 not greater than here", mover(20).moves(0), 0);
        due("12 just greater than here", mover(19).moves(0), 2);
        VillageRounds y = mover(5);
        y.set(0, 5);
        due("12 at the place of a plot", y.moves(0), 5);
        VillageRounds z = new VillageRounds();
        z.rule(0, 1);
        z.set(0, 9);
        due("12 no plots", z.moves(0), 9);
        VillageRounds w = mover(0);
        w.rule(1, 1);
        w.set(1, 40);
        due("12 just fed here, though more is elsewhere", w.moves(1), 0);
        w.set(1, 41);
        due("12 more is elsewhere", w.moves(1), 2);
    }

    private static void movesByKinds() {
        VillageRounds x = new VillageRounds();
        x.plot(0, 30);
        x.plot(0, 10);
        x.plot(1, 12);
        Check.land(x, "give 9 s=0;give 30 s=1;walk 3");
        x.rule(1, 3);
        x.rule(3, 1);
        x.rule(0, 1);
        x.set(1, 9);
        due("12 of a round what its turn gives", x.moves(0), 30);
        due("12 of near", x.moves(1), 12);
        due("12 of rule, the least plot of two places", x.moves(2), 10);
        x.set(1, 39);
        due("12 of near both", x.moves(2), 10);
        due("12 none farther than v from there", x.moves(1), 12);
    }

    private static void go() {
        VillageRounds x = new VillageRounds();
        x.plot(0, 2);
        x.plot(0, 5);
        Check.land(x, "give 30 c=1;walk 8");
        x.rule(0, 1);
        due("13 no such rule", x.go(1, 1), -1);
        due("13 NONE ahead of BAD", x.go(-1, 31), -1);
        due("13 n 0", x.go(0, 0), -2);
        due("13 n 31", x.go(0, 31), -2);
        x.set(1, 20);
        due("13 never hungry", x.go(0, 5), 0);
        due("13 five years", x.count(3), 5);
        due("13 the first is under crop", x.of(0, 2), 1);
        due("13 the second lies", x.of(1, 3), 0);
        x.year(0, 0);
        x.set(1, 40);
        due("13 hungry every other year", x.go(0, 4), 2);
        due("13 thirty", x.go(0, 30), 15);
        due("13 forty years", x.count(3), 40);
        VillageRounds y = new VillageRounds();
        y.plot(0, 20);
        Check.land(y, "give 30 c=1|c=2;walk 8;move 5;grow 3");
        y.rule(0, 1);
        y.set(1, 29);
        due("13 the move costs", y.go(0, 2), 1);
        due("13 it has moved", y.set(0, 20), 20);
        due("13 mouths grew", y.set(1, 31), 31);
        due("13 nothing in the third year", y.go(0, 1), 1);
    }
}
