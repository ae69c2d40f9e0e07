/** Promises 24 to 26: acts, the bodies that ran, rules taken for kinds. */
public final class Acts {
    public static void main(String[] args) throws Exception {
        Suite.run(Acts.class, 24, 25, 26);
    }

    /** An act with x 10, and the bodies of its trace. */
    private static void act(Check check, int rule, int act, int want, int... bodies) {
        VillageRounds x = Make.rules();
        String call = "act(" + rule + ", " + act + ", 10)";
        check.due(call, x.act(rule, act, 10), want);
        check.due("bodies of " + call, x.count(7), bodies.length);
        for (int i = 0; i < bodies.length; i++) {
            check.due("body " + i + " of " + call, x.trace(i), bodies[i]);
        }
        check.due("behind the last of " + call, x.trace(bodies.length), -1);
    }

    static void promise24OfRule(Check check) {
        act(check, 0, 0, 10, 1);
        act(check, 0, 1, 5, 2, 1);
        act(check, 0, 2, 10, 3, 2, 1);
    }

    static void promise24OfRound(Check check) {
        act(check, 1, 0, 31, 11, 1);
        act(check, 1, 1, 28, 2, 11, 1);
        act(check, 1, 2, 56, 3, 2, 11, 1);
    }

    static void promise24OfRest(Check check) {
        act(check, 2, 0, 12, 1);
        act(check, 2, 1, -1, 21, 2, 1);
        act(check, 2, 2, -2, 3, 21, 2, 1);
    }

    static void promise24OfNear(Check check) {
        act(check, 3, 0, 13, 1);
        act(check, 3, 1, 6, 2, 1);
        act(check, 3, 2, 11, 31, 3, 2, 1);
    }

    static void promise24OfBest(Check check) {
        act(check, 4, 0, 14, 1);
        act(check, 4, 1, 5, 2, 1);
        act(check, 4, 2, 21, 41, 31, 3, 2, 1, 1);
    }

    static void promise24OfStay(Check check) {
        act(check, 5, 0, 10, 51, 1);
        act(check, 5, 1, -6, 21, 2, 51, 1);
        act(check, 5, 2, -12, 3, 21, 2, 51, 1);
    }

    static void promise24OfLong(Check check) {
        act(check, 6, 0, 16, 1);
        act(check, 6, 1, -12, 61, 21, 2, 1);
        act(check, 6, 2, -24, 3, 61, 21, 2, 1);
    }

    private static void wraps(Check check, int rule, int act, int x, int want) {
        check.due("act(" + rule + ", " + act + ", " + x + ")", Make.rules().act(rule, act, x), want);
    }

    static void promise24AMoreWraps(Check check) {
        wraps(check, 6, 0, Integer.MAX_VALUE, Integer.MIN_VALUE + 5);
        wraps(check, 6, 0, Integer.MAX_VALUE - 6, Integer.MAX_VALUE);
    }

    static void promise24ALessWraps(Check check) {
        wraps(check, 0, 1, Integer.MIN_VALUE, Integer.MAX_VALUE - 4);
        wraps(check, 0, 1, Integer.MIN_VALUE + 5, Integer.MIN_VALUE);
        wraps(check, 4, 2, Integer.MIN_VALUE, -7);
    }

    static void promise24ATimesWraps(Check check) {
        wraps(check, 0, 2, Integer.MAX_VALUE, -12);
        wraps(check, 0, 2, Integer.MIN_VALUE + 5, 0);
        wraps(check, 1, 0, Integer.MAX_VALUE, Integer.MAX_VALUE - 1);
        wraps(check, 1, 0, Integer.MIN_VALUE, Integer.MIN_VALUE + 1);
    }

    static void promise24AMinusWraps(Check check) {
        wraps(check, 2, 1, Integer.MIN_VALUE + 9, Integer.MIN_VALUE);
        wraps(check, 6, 1, Integer.MAX_VALUE - 2, Integer.MIN_VALUE + 1);
    }

    static void promise24RuleTooSmall(Check check) {
        for (int rule : Make.below(0)) {
            none(check, rule, 0);
        }
    }

    static void promise24RuleTooLarge(Check check) {
        for (int rule : new int[] {7, 8, Integer.MAX_VALUE}) {
            none(check, rule, 0);
        }
        check.due("act(7, 0, 5) of eight", Make.full().act(7, 0, 5), 12);
        check.due("act(8, 0, 5) of eight", Make.full().act(8, 0, 5), 0);
    }

    static void promise24ActTooSmall(Check check) {
        for (int rule = 0; rule < 7; rule++) {
            none(check, rule, -1);
            none(check, rule, Integer.MIN_VALUE);
        }
    }

    static void promise24ActTooLarge(Check check) {
        for (int rule = 0; rule < 7; rule++) {
            none(check, rule, 3);
            none(check, rule, Integer.MAX_VALUE);
        }
    }

    /** No such rule or act: 0, no trace then, and nothing else is changed. */
    private static void none(Check check, int rule, int act) {
        String told = "act(" + rule + ", " + act + ", 5)";
        VillageRounds x = Make.rich();
        check.due(told, x.act(rule, act, 5), 0);
        check.due("bodies of " + told, x.count(7), 0);
        check.due("first body of " + told, x.trace(0), -1);
        check.still(told, Acts::richWithoutTrace, y -> y.act(rule, act, 5), 0);
    }

    private static VillageRounds richWithoutTrace() {
        VillageRounds x = Make.rich();
        x.act(-1, 0, 0);
        return x;
    }

    private static VillageRounds richWithTraceOfNear() {
        VillageRounds x = Make.rich();
        x.act(3, 2, 1);
        return x;
    }

    static void promise24ChangesNothingButTheTrace(Check check) {
        check.still("act(3, 2, 1)", Acts::richWithTraceOfNear, x -> x.act(3, 2, 1), -3);
    }

    static void promise25TooSmall(Check check) {
        for (int i : Make.below(0)) {
            check.still("trace(" + i + ")", Make::rich, x -> x.trace(i), -1);
        }
    }

    static void promise25TooLarge(Check check) {
        for (int i : new int[] {6, 7, 19, 20, Integer.MAX_VALUE}) {
            check.still("trace(" + i + ") of six", Make::rich, x -> x.trace(i), -1);
        }
    }

    static void promise25AskingChangesNothing(Check check) {
        check.still("trace(0)", Make::rich, x -> x.trace(0), 41);
        check.still("trace(5)", Make::rich, x -> x.trace(5), 1);
    }

    static void promise25NoneAheadOfAnyAct(Check check) {
        check.due("trace(0)", Make.rules().trace(0), -1);
    }

    static void promise25TheLatestActAlone(Check check) {
        VillageRounds x = Make.rules();
        x.act(4, 2, 1);
        x.act(5, 0, 1);
        int[] bodies = {51, 1, -1, -1, -1, -1, -1};
        for (int i = 0; i < bodies.length; i++) {
            check.due("trace(" + i + ")", x.trace(i), bodies[i]);
        }
    }

    /** No act runs so many that one would not be kept. */
    static void promise25AllAreKept(Check check) {
        VillageRounds x = Make.rules();
        for (int rule = 0; rule < 7; rule++) {
            for (int act = 0; act < 3; act++) {
                x.act(rule, act, 1);
                int ran = x.count(7);
                check.due("the last is one of RULE", x.trace(ran - 1), 1);
                check.due("none behind it", x.trace(ran), -1);
            }
        }
    }

    static void promise26AKindOrOneUnderIt(Check check) {
        VillageRounds x = Make.rules();
        int other = -6;
        int[][] want = {
            {5, other, other, other, other, other, other},
            {3, 3, other, other, other, other, other},
            {11, other, 11, other, other, other, other},
            {7, other, other, 7, other, other, other},
            {9, other, other, 9, 9, other, other},
            {4, other, 4, other, other, 4, other},
            {2, other, 2, other, other, other, 2}
        };
        for (int rule = 0; rule < 7; rule++) {
            for (int k = 0; k < 7; k++) {
                check.due("as(" + rule + ", " + k + ")", x.as(rule, k), want[rule][k]);
            }
        }
    }

    static void promise26RuleTooSmall(Check check) {
        for (int rule : Make.below(0)) {
            check.still("as(" + rule + ", 0)", Make::rich, x -> x.as(rule, 0), -1);
        }
    }

    static void promise26RuleTooLarge(Check check) {
        for (int rule : new int[] {7, 8, Integer.MAX_VALUE}) {
            check.still("as(" + rule + ", 0)", Make::rich, x -> x.as(rule, 0), -1);
        }
        check.due("as(7, 0) of eight", Make.full().as(7, 0), 30);
        check.due("as(8, 0) of eight", Make.full().as(8, 0), -1);
    }

    static void promise26KindTooSmall(Check check) {
        for (int k : Make.below(0)) {
            check.still("as(0, " + k + ")", Make::rich, x -> x.as(0, k), -1);
        }
    }

    static void promise26KindTooLarge(Check check) {
        for (int k : Make.above(6)) {
            check.still("as(0, " + k + ")", Make::rich, x -> x.as(0, k), -1);
        }
    }

    static void promise26OfAnotherKindChangesNothing(Check check) {
        check.still("as(0, 1)", Make::rich, x -> x.as(0, 1), -6);
    }

    static void promise26AskingChangesNothing(Check check) {
        check.still("as(4, 3)", Make::rich, x -> x.as(4, 3), 9);
    }
}
