/** Makes objects for tests, and numbers that are too small or too large. */
final class Make {
    static final String LAND = "give 20 c<3;give 6 c=3&y>8;give 4 s=1|!(w<2);wear y<11;walk 8;move 5;grow 2;dry 3";
    /** The number v of the rule of each kind. */
    static final int[] LEADS = {5, 3, 11, 7, 9, 4, 2};

    private Make() {
    }

    static int[] below(int least) {
        return new int[] {least - 1, -100, Integer.MIN_VALUE};
    }

    static int[] above(int most) {
        return new int[] {most + 1, 1000, Integer.MAX_VALUE};
    }

    /** Feeds a text, eight bytes a call. */
    static void feed(VillageRounds x, String text) {
        for (int i = 0; i < text.length(); i += 8) {
            int n = Math.min(8, text.length() - i);
            long w = 0;
            for (int k = 0; k < n; k++) {
                w = w << 8 | text.charAt(i + k);
            }
            x.feed(w, n);
        }
    }

    /** Feeds a text and makes it a land. */
    static int land(VillageRounds x, String text) {
        feed(x, text);
        return x.land();
    }

    /** Plots of soil 0 at places told. */
    static VillageRounds hill(String land, int... places) {
        VillageRounds x = new VillageRounds();
        for (int place : places) {
            x.plot(0, place);
        }
        land(x, land);
        return x;
    }

    /** As hill(), with rule 0 of a kind. */
    static VillageRounds ruledHill(int kind, int v, String land, int... places) {
        VillageRounds x = hill(land, places);
        x.rule(kind, v);
        return x;
    }

    /** Four plots of soils 0 to 3 that give 10, 20, 20, 5 in every year, at 2, 5, 9, 20. */
    static VillageRounds fourSoils() {
        VillageRounds x = new VillageRounds();
        x.plot(0, 2);
        x.plot(1, 5);
        x.plot(2, 9);
        x.plot(3, 20);
        land(x, "give 10 s=0;give 20 s=1|s=2;give 5 s=3");
        return x;
    }

    /** A rule of each kind, of the same number as the kind. */
    static VillageRounds rules() {
        VillageRounds x = new VillageRounds();
        for (int kind = 0; kind < 7; kind++) {
            x.rule(kind, LEADS[kind]);
        }
        return x;
    }

    /** Something of everything, nothing full; the image is of an earlier state. */
    static VillageRounds rich() {
        VillageRounds x = rules();
        for (int i = 0; i < 5; i++) {
            x.plot(i % 4, 2 + 4 * i);
        }
        land(x, LAND);
        x.set(1, 30);
        x.set(0, 6);
        x.row(7);
        x.age(40);
        x.year(3, 6);
        feed(x, "wear");
        x.image();
        x.row(12);
        x.row(17);
        x.age(11);
        x.lies(3, 4);
        x.year(10, 9);
        feed(x, " c<1");
        x.act(4, 2, 9);
        return x;
    }

    /** All full: plots, rules, lands, the tape, the row, ages; and an image of it. */
    static VillageRounds full() {
        VillageRounds x = rules();
        x.rule(0, 30);
        for (int i = 0; i < 8; i++) {
            x.plot(i % 4, 5 * i);
        }
        for (int i = 0; i < 4; i++) {
            land(x, "dry 1");
        }
        land(x, LAND);
        feed(x, "give 99 c=1;".repeat(10));
        for (int i = 0; i < 12; i++) {
            x.row(255 - i);
        }
        for (int i = 0; i < 10; i++) {
            x.age(9 * i);
        }
        x.act(1, 2, 3);
        x.image();
        x.year(7, 3);
        return x;
    }
}
