import java.util.function.Consumer;

/** Promises 27 to 29: the image, all as it was, counts. */
public final class Image {
    public static void main(String[] args) throws Exception {
        Suite.run(Image.class, 27, 28, 29);
    }

    static void promise27OfNothing(Check check) {
        VillageRounds x = new VillageRounds();
        check.due("image()", x.image(), 0);
        Make.land(x, Make.LAND);
        x.plot(0, 0);
        check.due("undo()", x.undo(), 0);
        for (int what = 0; what <= 7; what++) {
            check.due("count(" + what + ")", x.count(what), 0);
        }
    }

    static void promise27OfAllThatIsFull(Check check) {
        VillageRounds x = Make.full();
        check.due("image()", x.image(), 8);
        x.row(-1);
        x.age(-1);
        check.due("undo()", x.undo(), 8);
        int[] counts = {8, 8, 5, 1, 120, 12, 10};
        for (int what = 0; what <= 6; what++) {
            check.due("count(" + what + ")", x.count(what), counts[what]);
        }
    }

    static void promise27ChangesNothingElse(Check check) {
        check.still("image() again", Image::justTaken, VillageRounds::image, 5);
    }

    private static VillageRounds justTaken() {
        VillageRounds x = Make.rich();
        x.image();
        return x;
    }

    static void promise27ANewerOneTakesItsPlace(Check check) {
        VillageRounds x = Make.fourSoils();
        check.due("image()", x.image(), 4);
        x.plot(0, 0);
        check.due("image()", x.image(), 5);
        x.plot(0, 0);
        check.due("undo()", x.undo(), 5);
    }

    static void promise28StateIfThereIsNone(Check check) {
        check.still("undo() of a new one", VillageRounds::new, VillageRounds::undo, -3);
        check.still("undo() without an image", Image::withoutImage, VillageRounds::undo, -3);
    }

    private static VillageRounds withoutImage() {
        VillageRounds x = Make.fourSoils();
        x.rule(0, 1);
        x.row(3);
        x.age(7);
        x.year(3, 6);
        x.act(0, 2, 1);
        Make.feed(x, "dry");
        return x;
    }

    static void promise28ATakenBackImageStays(Check check) {
        VillageRounds x = Make.fourSoils();
        x.image();
        for (int i = 0; i < 3; i++) {
            x.plot(0, 0);
            x.lies(0, i);
            check.due("undo()", x.undo(), 4);
            check.due("has lain", x.of(0, 3), 30);
        }
    }

    /** Whatever one call changes, but the trace, is as the image behind undo(). */
    private static void back(Check check, String told, Consumer<VillageRounds> change) {
        check.still(told + " and undo()", Image::justTaken, x -> {
            change.accept(x);
            return x.undo();
        }, 5);
    }

    static void promise28PlotsAreGone(Check check) {
        back(check, "plot(0, 3)", x -> x.plot(0, 3));
    }

    static void promise28APlotBehindItIsNew(Check check) {
        VillageRounds x = justTaken();
        x.plot(3, 3);
        x.year(32, 3);
        x.undo();
        check.due("its number", x.plot(2, 9), 5);
        int[] fresh = {2, 9, 0, 30, 0};
        for (int what = 0; what < 5; what++) {
            check.due("of(5, " + what + ")", x.of(5, what), fresh[what]);
        }
    }

    static void promise28PlotsLieAsTheyDid(Check check) {
        back(check, "lies(1, 3)", x -> x.lies(1, 3));
        back(check, "lies(4, 0)", x -> x.lies(4, 0));
    }

    static void promise28YearsAreGone(Check check) {
        back(check, "year(5, 30)", x -> x.year(5, 30));
        back(check, "go(0, 30)", x -> x.go(0, 30));
    }

    static void promise28TheVillageAndMouthsAreBack(Check check) {
        back(check, "set(0, 40)", x -> x.set(0, 40));
        back(check, "set(1, 99)", x -> x.set(1, 99));
    }

    static void promise28TheTapeIsBack(Check check) {
        back(check, "feed(32, 1)", x -> x.feed(32, 1));
        back(check, "a fault", VillageRounds::land);
        back(check, "bytes changed", x -> {
            x.land();
            Make.feed(x, "give 9 c=1");
        });
    }

    static void promise28LandsAreBack(Check check) {
        back(check, "another land", x -> {
            x.land();
            Make.land(x, "give 9 c=1;walk 40;move 9;grow 90;dry 9");
        });
        VillageRounds x = Make.fourSoils();
        x.image();
        for (int i = 1; i < 5; i++) {
            check.due("land", Make.land(x, "dry 1"), i);
        }
        check.due("full", Make.land(x, "dry 1"), -4);
        x.undo();
        check.due("not full any more", Make.land(x, "dry 1"), 1);
    }

    static void promise28RulesAreGone(Check check) {
        back(check, "rule(3, 2)", x -> x.rule(3, 2));
    }

    static void promise28ARuleBehindItIsNew(Check check) {
        VillageRounds x = justTaken();
        x.rule(3, 2);
        x.undo();
        check.due("its number", x.rule(4, 13), 7);
        check.due("its v", x.as(7, 4), 13);
    }

    static void promise28TheRowIsBack(Check check) {
        back(check, "row(1)", x -> x.row(1));
        back(check, "row(-1)", x -> x.row(-1));
        back(check, "another row", x -> {
            x.row(-1);
            x.row(0);
            x.row(0);
            x.row(0);
        });
    }

    static void promise28AgesAreBack(Check check) {
        back(check, "age(1)", x -> x.age(1));
        back(check, "age(-1)", x -> x.age(-1));
    }

    static void promise28FullIsFullAgain(Check check) {
        VillageRounds x = Make.full();
        x.undo();
        check.due("plot", x.plot(0, 0), -4);
        check.due("rule", x.rule(0, 1), -4);
        check.due("feed", x.feed(0, 1), -4);
        check.due("land", x.land(), -4);
        check.due("row", x.row(0), -4);
        check.due("age", x.age(0), -4);
    }

    static void promise28TheTraceIsNotOfTheImage(Check check) {
        VillageRounds x = Make.rules();
        x.act(0, 0, 1);
        x.image();
        check.due("image() leaves it", x.count(7), 1);
        x.act(4, 2, 1);
        x.undo();
        check.due("undo() leaves it", x.count(7), 6);
        check.due("undo() leaves it", x.trace(0), 41);
        x.act(9, 0, 1);
        x.undo();
        check.due("none stays none", x.count(7), 0);
    }

    static void promise29WhatTooSmall(Check check) {
        for (int what : Make.below(0)) {
            check.still("count(" + what + ")", Make::rich, x -> x.count(what), -1);
        }
    }

    static void promise29WhatTooLarge(Check check) {
        for (int what : Make.above(7)) {
            check.still("count(" + what + ")", Make::rich, x -> x.count(what), -1);
        }
    }

    static void promise29EachCount(Check check) {
        int[] counts = {5, 7, 1, 2, 8, 3, 2, 6};
        for (int what = 0; what <= 7; what++) {
            int asked = what;
            check.still("count(" + what + ")", Make::rich, x -> x.count(asked), counts[what]);
        }
    }

    static void promise29OfAllThatIsFull(Check check) {
        int[] counts = {8, 8, 5, 1, 120, 12, 10, 4};
        for (int what = 0; what <= 7; what++) {
            check.due("count(" + what + ")", Make.full().count(what), counts[what]);
        }
    }
}
