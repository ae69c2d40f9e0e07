/** Compares answers with what is due, and counts those that are not. */
final class Check {
    private int wrong;
    private int asked;

    void due(String call, long got, long want) {
        asked++;
        if (got != want) {
            wrong++;
            System.out.println(call + " answered " + got + ", due is " + want);
        }
    }

    /** Ends the program as a test ends: with exit code 1 if an answer was not the one due. */
    void end(String name) {
        System.out.println(name + ": " + asked + " answers, " + wrong + " not as due");
        if (wrong != 0 || asked == 0) {
            System.exit(1);
        }
    }

    /** Feeds a text, eight bytes a call. */
    static void feed(VillageRounds x, String text) {
        for (int i = 0; i < text.length(); i += 8) {
            int n = Math.min(8, text.length() - i);
            long w = 0;
            for (int k = 0; k < n; k++) {
                w = w << 8 | text.charAt(i + k);
            }
            x.feed(w, n);
        }
    }

    /** Feeds a text and makes it a land. */
    static int land(VillageRounds x, String text) {
        feed(x, text);
        return x.land();
    }
}
