import java.util.List;
import java.util.function.Supplier;
import java.util.function.ToLongFunction;

/** Compares answers with what is due, and counts those that are not. */
final class Check {
    private String test = "";
    private int wrong;
    private int asked;

    /** What is asked from here on is told under this name. */
    void begin(String name) {
        test = name + ": ";
    }

    int asked() {
        return asked;
    }

    void due(String call, long got, long want) {
        asked++;
        if (got != want) {
            wrong++;
            System.out.println(test + call + " answered " + got + ", due is " + want);
        }
    }

    void fail(String why) {
        asked++;
        wrong++;
        System.out.println(test + why);
    }

    /**
     * A call that answers what is due and changes nothing: a refused one, or one that only asks.
     * Behind it the object must answer all as a like one that was not called.
     */
    void still(String told, Supplier<VillageRounds> made, ToLongFunction<VillageRounds> call, long want) {
        VillageRounds called = made.get();
        due(told, call.applyAsLong(called), want);
        List<String> got = Whole.of(called);
        List<String> due = Whole.of(made.get());
        for (int i = 0; i < due.size(); i++) {
            if (!due.get(i).equals(got.get(i))) {
                fail(told + " changed " + due.get(i) + " to " + got.get(i));
                return;
            }
        }
    }

    /** Ends the program as a test ends: with exit code 1 if an answer was not the one due. */
    void end(String name) {
        System.out.println(name + ": " + asked + " answers, " + wrong + " not as due");
        if (wrong != 0 || asked == 0) {
            System.exit(1);
        }
    }
}
