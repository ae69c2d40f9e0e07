/** Promises 1 to 8: a new object, plots, the tape and its lands, what a plot gives. */
public final class PlotsAndLands {
    private static final Check CHECK = new Check();

    public static void main(String[] args) {
        newObject();
        plot();
        of();
        lies();
        feed();
        landFaults();
        landSound();
        landRefusals();
        set();
        givesByYears();
        givesByTests();
        givesByWear();
        givesNear();
        CHECK.end("PlotsAndLands");
    }

    private static void due(String call, long got, long want) {
        CHECK.due(call, got, want);
    }

    private static VillageRounds hill() {
        VillageRounds x = new VillageRounds();
        x.plot(0, 2);
        x.plot(1, 5);
        x.plot(2, 9);
        x.plot(3, 20);
        return x;
    }

    private static void newObject() {
        VillageRounds x = new VillageRounds();
        for (int what = 0; what <= 7; what++) {
            due("1 count(" + what + ")", x.count(what), 0);
        }
        due("1 of(0, 0)", x.of(0, 0), -1);
        due("1 gives(0)", x.gives(0), -1);
        due("1 burns(0)", x.burns(0), -1);
        due("1 judged()", x.judged(), -5);
        due("1 undo()", x.undo(), -3);
        due("1 trace(0)", x.trace(0), -1);
        due("1 set(0, 3): place", x.set(0, 3), 0);
        due("1 set(1, 3): mouths", x.set(1, 3), 10);
        due("1 plot(0, 0)", x.plot(0, 0), 0);
        due("1 gives(0) without a land", x.gives(0), 0);
        due("1 less(1)", new VillageRounds().less(1), -5);
    }

    private static void plot() {
        VillageRounds x = new VillageRounds();
        due("2 plot(-1, 0)", x.plot(-1, 0), -2);
        due("2 plot(4, 0)", x.plot(4, 0), -2);
        due("2 plot(0, -1)", x.plot(0, -1), -2);
        due("2 plot(0, 41)", x.plot(0, 41), -2);
        due("2 none came", x.count(0), 0);
        for (int i = 0; i < 8; i++) {
            due("2 plot " + i, x.plot(i % 4, i * 5), i);
        }
        due("2 plot of the eighth place 40", x.plot(0, 40), -4);
        due("2 BAD ahead of FULL", x.plot(0, 41), -2);
        due("2 none came", x.count(0), 8);
    }

    private static void of() {
        VillageRounds x = hill();
        int[] fresh = {3, 20, 0, 30, 0};
        for (int what = 0; what < 5; what++) {
            due("3 of(3, " + what + ")", x.of(3, what), fresh[what]);
        }
        due("3 of(4, 0)", x.of(4, 0), -1);
        due("3 of(-1, 0)", x.of(-1, 0), -1);
        due("3 of(0, -1)", x.of(0, -1), -1);
        due("3 of(0, 5)", x.of(0, 5), -1);
        x.lies(1, 7);
        x.year(2, 0);
        due("3 under crop", x.of(1, 2), 1);
        due("3 had lain", x.of(1, 3), 7);
        x.year(2, 0);
        due("3 under crop", x.of(1, 2), 2);
        due("3 had lain", x.of(1, 3), 7);
        x.year(0, 0);
        due("3 lies", x.of(1, 2), 0);
        due("3 has lain", x.of(1, 3), 0);
    }

    private static void lies() {
        VillageRounds x = hill();
        due("4 lies(0, 0)", x.lies(0, 0), 30);
        due("4 lies(0, 30)", x.lies(0, 30), 0);
        due("4 lies(0, -1)", x.lies(0, -1), -2);
        due("4 lies(0, 31)", x.lies(0, 31), -2);
        due("4 lies(4, 0)", x.lies(4, 0), -1);
        due("4 NONE ahead of BAD", x.lies(-1, 31), -1);
        due("4 unchanged", x.of(0, 3), 30);
        x.lies(0, 12);
        x.year(1, 0);
        due("4 lies(0, 5) from under crop", x.lies(0, 5), 12);
        due("4 no crop", x.of(0, 2), 0);
        due("4 has lain", x.of(0, 3), 5);
    }

    private static void feed() {
        VillageRounds x = new VillageRounds();
        due("5 n 0", x.feed(0, 0), -2);
        due("5 n 9", x.feed(0, 9), -2);
        due("5 n -1", x.feed(0, -1), -2);
        due("5 one byte of more", x.feed(0x7777777777777764L, 1), 1);
        due("5 two", x.feed(0x7279, 2), 3);
        due("5 three", x.feed(0x203738, 3), 6);
        due("5 land 'dry 78'", x.land(), 0);
        for (int i = 1; i <= 14; i++) {
            due("5 eight", x.feed(-1L, 8), 8 * i);
        }
        due("5 to 119", x.feed(0, 7), 119);
        due("5 over 120", x.feed(0, 2), -4);
        due("5 BAD ahead of FULL", x.feed(0, 9), -2);
        due("5 still 119", x.count(4), 119);
        due("5 to 120", x.feed(0, 1), 120);
        due("5 full", x.feed(0, 1), -4);
    }

    private static void fault(String text, int place) {
        due("6 land '" + text + "'", Check.land(new VillageRounds(), text), -10 - place);
    }

    private static void landFaults() {
        fault("", 0);
        fault("x", 0);
        fault(";", 0);
        fault(" give 1 c=1", 0);
        fault("Give 1 c=1", 0);
        fault("g", 1);
        fault("gave", 1);
        fault("grew", 2);
        fault("walc", 3);
        fault("wet", 2);
        fault("moved", 4);
        fault("dray", 2);
        fault("give", 4);
        fault("give ", 5);
        fault("give  1 c=1", 5);
        fault("give c=1", 5);
        fault("give 1", 6);
        fault("give 1;", 6);
        fault("give 123 c=1", 7);
        fault("give 00 c=1", 6);
        fault("give 1 ", 7);
        fault("give 1  c=1", 7);
        fault("give 1 d=1", 7);
        fault("give 1 c", 8);
        fault("give 1 c=", 9);
        fault("give 1 c!1", 8);
        fault("give 1 c=x", 9);
        fault("give 1 c==1", 9);
        fault("give 1 c=01", 10);
        fault("give 1 c=123", 11);
        fault("give 1 c=1&", 11);
        fault("give 1 c=1|", 11);
        fault("give 1 c=1&&c=1", 11);
        fault("give 1 c=1|&c=1", 11);
        fault("give 1 c=1 ", 10);
        fault("give 1 c=1)", 10);
        fault("give 1 (c=1", 11);
        fault("give 1 (c=1;", 11);
        fault("give 1 (c=1|", 12);
        fault("give 1 ()", 8);
        fault("give 1 (c=1)(", 12);
        fault("give 1 !", 8);
        fault("give 1 c=1!", 10);
        fault("wear", 4);
        fault("wear 1", 5);
        fault("wear ((((((c=1))))))", 10);
        fault("wear !(!(!(c=1)))", 10);
        fault("wear (((((!c=1)))))", 10);
        fault("wear (((((c=1)))))&!!!!!!c=1", 24);
        fault("walk", 4);
        fault("walk ", 5);
        fault("walk x", 5);
        fault("walk 1 ", 6);
        fault("walk 1x", 6);
        fault("walk 1;", 7);
        fault("walk 1;;", 7);
        fault("walk 1; move 1", 7);
        fault("dry 1;dry 2;dry 3;dry 4;dry 5;dry 6;dry 7;dry 8;dry 9;dry 0;", 59);
        fault("dry 1;dry 2;dry 3;dry 4;dry 5;dry 6;dry 7;dry 8;dry 9;dry 0;dry 1", 59);
        fault("dry 1" + (char) 0, 5);
        fault("" + (char) 200, 0);
    }

    private static void sound(String text) {
        due("6 land '" + text + "'", Check.land(new VillageRounds(), text), 0);
    }

    private static void landSound() {
        sound("give 0 c=0");
        sound("give 99 c<99|y>0&s=3|w<9&p>40");
        sound("wear !c=1");
        sound("wear !!!!!c=1");
        sound("wear (((((c=1)))))");
        sound("wear !(!(!c=1))");
        sound("wear !!!!!c=1&!!!!!c=1|(((((c=1)))))");
        sound("wear (((((c=1)))))&(((((c=1)))))");
        sound("wear ((((!c=1))))&((((!c=1))))|!(c=1)");
        sound("walk 0;move 99;grow 10;dry 99");
        sound("dry 1;dry 2;dry 3;dry 4;dry 5;dry 6;dry 7;dry 8;dry 9;dry 0");
    }

    private static void landRefusals() {
        VillageRounds x = hill();
        due("6 land 0", Check.land(x, "give 7 c=1"), 0);
        due("6 tape empty", x.count(4), 0);
        due("6 fault", Check.land(x, "give 9 c=1;"), -21);
        due("6 tape empty by a fault, too", x.count(4), 0);
        due("6 no land more", x.count(2), 1);
        due("6 the one that held holds", x.gives(0), 7);
        due("6 land 1", Check.land(x, "give 5 c=1"), 1);
        due("6 the newest holds", x.gives(0), 5);
        Check.land(x, "give 3 c=1");
        Check.land(x, "walk 9");
        due("6 nothing of a former land", x.gives(0), 0);
        due("6 land 4", Check.land(x, "give 2 c=1"), 4);
        Check.feed(x, "x");
        due("6 FULL ahead of a fault", x.land(), -4);
        due("6 the tape stays", x.count(4), 1);
        due("6 five", x.count(2), 5);
    }

    private static void set() {
        VillageRounds x = new VillageRounds();
        due("7 set(0, 40)", x.set(0, 40), 0);
        due("7 set(0, 41)", x.set(0, 41), -2);
        due("7 set(0, -1)", x.set(0, -1), -2);
        due("7 set(0, 0)", x.set(0, 0), 40);
        due("7 set(1, 99)", x.set(1, 99), 10);
        due("7 set(1, 100)", x.set(1, 100), -2);
        due("7 set(1, 0)", x.set(1, 0), -2);
        due("7 set(1, 1)", x.set(1, 1), 99);
        due("7 set(2, 1)", x.set(2, 1), -1);
        due("7 NONE ahead of BAD", x.set(-1, -1), -1);
    }

    private static void givesByYears() {
        VillageRounds x = hill();
        Check.land(x, "give 20 c=1;give 8 c=2&y>9;give 1 c<3;walk 8");
        due("8 gives(4)", x.gives(4), -1);
        due("8 gives(-1)", x.gives(-1), -1);
        due("8 first year", x.gives(0), 21);
        due("8 asked changes nothing", x.of(0, 2), 0);
        x.year(1, 0);
        due("8 second year", x.gives(0), 9);
        x.year(1, 0);
        due("8 third year", x.gives(0), 0);
        x.lies(0, 9);
        x.year(1, 0);
        due("8 second year, had lain 9", x.gives(0), 1);
        x.lies(0, 10);
        x.year(1, 0);
        due("8 second year, had lain 10", x.gives(0), 9);
    }

    private static void by(String condition, int want) {
        VillageRounds x = new VillageRounds();
        x.plot(2, 7);
        x.lies(0, 12);
        Check.land(x, "give 5 " + condition);
        due("8 gives by " + condition, x.gives(0), want);
    }

    private static void givesByTests() {
        by("c=1", 5);
        by("c<1", 0);
        by("c>0", 5);
        by("y=12", 5);
        by("y<12", 0);
        by("y<13", 5);
        by("y>12", 0);
        by("y>11", 5);
        by("s=2", 5);
        by("s=1", 0);
        by("w=0", 5);
        by("w>0", 0);
        by("p=7", 5);
        by("p>7", 0);
        by("!c=1", 0);
        by("!!c=1", 5);
        by("c=1|c=1&c=2", 5);
        by("c=2&c=1|c=1", 5);
        by("c=2&(c=1|c=1)", 0);
        by("(c=1|c=1)&c=2", 0);
        by("!c=2&c=2", 0);
        by("!(c=2&c=2)", 5);
        by("!c=1|c=1", 5);
        by("!(c=1|c=1)", 0);
        by("c=2|c=2|c=1", 5);
        by("c=1&c=1&c=2", 0);
        by("c=2|c=1&s=2|c=2", 5);
        by("c=2|c=1&s=3|c=2", 0);
        by("((c=2|(c=1&!(s=3|p=7))))", 0);
        by("((c=2|(c=1&!(s=3|p=8))))", 5);
    }

    private static void givesByWear() {
        VillageRounds x = hill();
        Check.land(x, "give 20 c<9;wear y<5;wear y<6");
        due("8 rested", x.gives(0), 20);
        x.lies(0, 4);
        due("8 worn once, though two hold", x.gives(0), 19);
        due("8 asked changes nothing", x.of(0, 4), 0);
        x.year(1, 0);
        due("9 worn", x.of(0, 4), 1);
        due("8 not worn again in a later year", x.gives(0), 19);
        for (int i = 0; i < 8; i++) {
            x.lies(0, 0);
            x.year(1, 0);
        }
        due("9 worn 9", x.of(0, 4), 9);
        x.lies(0, 0);
        due("8 worn 9 at most", x.gives(0), 11);
        x.year(1, 0);
        due("9 worn 9 at most", x.of(0, 4), 9);
        Check.land(x, "give 5 c<9");
        due("8 not below 0", x.gives(0), 0);
        VillageRounds y = hill();
        Check.land(y, "give 9 w=1;wear w=0");
        due("8 wear looks at w as it was, give then", y.gives(0), 8);
        y.year(1, 0);
        y.lies(0, 0);
        y.year(1, 0);
        due("9 worn no more", y.of(0, 4), 1);
    }

    private static void givesNear() {
        VillageRounds x = hill();
        Check.land(x, "give 5 c=1");
        x.set(0, 40);
        due("8 walk 99 without", x.gives(0), 5);
        Check.land(x, "walk 3;give 5 c=1;walk 8");
        x.set(0, 1);
        due("8 as far as walk", x.gives(2), 5);
        x.set(0, 17);
        due("8 as far as walk", x.gives(2), 5);
        due("8 near", x.gives(3), 5);
        x.set(0, 18);
        due("8 farther", x.gives(2), 0);
        x.set(0, 0);
        due("8 farther", x.gives(2), 0);
    }
}
