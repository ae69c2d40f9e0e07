import java.util.List;

/** Promises 5 and 6: the tape, and the lands read from it. */
public final class Lands {
    private static final String TEN_CLAUSES = "dry 1;dry 2;dry 3;dry 4;dry 5;dry 6;dry 7;dry 8;dry 9;dry 0";

    public static void main(String[] args) throws Exception {
        Suite.run(Lands.class, 5, 6);
    }

    private static void sound(Check check, String text) {
        check.due("land '" + text + "'", Make.land(new VillageRounds(), text), 0);
    }

    private static void fault(Check check, String text, int place) {
        check.due("land '" + text + "'", Make.land(new VillageRounds(), text), -10 - place);
    }

    private static VillageRounds fed(int bytes) {
        VillageRounds x = new VillageRounds();
        Make.feed(x, " ".repeat(bytes));
        return x;
    }

    static void promise05HighestFirst(Check check) {
        VillageRounds x = new VillageRounds();
        check.due("one byte of more", x.feed(0x7777777777777764L, 1), 1);
        check.due("two", x.feed(0x7279, 2), 3);
        check.due("three", x.feed(0x203738, 3), 6);
        check.due("land 'dry 78'", x.land(), 0);
    }

    static void promise05OnlyTheLowestBytes(Check check) {
        VillageRounds x = new VillageRounds();
        x.feed(0x7878786472792037L, 5);
        check.due("land 'dry 7'", x.land(), 0);
    }

    static void promise05EachNumberOfBytes(Check check) {
        String text = "give 1 !c=1|!!c=3&(y>8|y<3);wear c=4";
        VillageRounds x = new VillageRounds();
        int size = 0;
        for (int n = 1; n <= 8; n++) {
            long w = -1;
            for (int i = 0; i < n; i++) {
                w = w << 8 | text.charAt(size + i);
            }
            size += n;
            check.due("feed of " + n, x.feed(w, n), size);
        }
        check.due("land '" + text + "'", x.land(), 0);
    }

    static void promise05BytesAbove127(Check check) {
        VillageRounds x = new VillageRounds();
        check.due("feed(-1, 8)", x.feed(-1L, 8), 8);
        check.due("feed(MIN, 8)", x.feed(Long.MIN_VALUE, 8), 16);
        check.due("land()", x.land(), -10);
    }

    static void promise05TooFewBytes(Check check) {
        for (int n : Make.below(1)) {
            check.still("feed(32, " + n + ")", Make::rich, x -> x.feed(32, n), -2);
        }
    }

    static void promise05TooManyBytes(Check check) {
        for (int n : Make.above(8)) {
            check.still("feed(32, " + n + ")", Make::rich, x -> x.feed(32, n), -2);
        }
    }

    static void promise05FullBehind120(Check check) {
        for (int n = 1; n <= 8; n++) {
            int size = n;
            check.due("just 120 by " + n, fed(120 - n).feed(0, n), 120);
            check.still("121 by " + n, () -> fed(121 - size), x -> x.feed(0, size), -4);
        }
    }

    static void promise05FullChangesNothing(Check check) {
        check.still("feed(32, 1)", Make::full, x -> x.feed(32, 1), -4);
        check.still("feed(32, 8)", Make::full, x -> x.feed(32, 8), -4);
    }

    static void promise05BadAheadOfFull(Check check) {
        check.still("feed(32, 0)", Make::full, x -> x.feed(32, 0), -2);
        check.still("feed(32, 9)", Make::full, x -> x.feed(32, 9), -2);
    }

    static void promise06LandsAreNumberedFrom0On(Check check) {
        VillageRounds x = new VillageRounds();
        for (int i = 0; i < 5; i++) {
            check.due("land " + i, Make.land(x, "dry " + i), i);
            check.due("count(2)", x.count(2), i + 1);
        }
    }

    static void promise06FiveAtMost(Check check) {
        VillageRounds x = new VillageRounds();
        for (int i = 0; i < 5; i++) {
            Make.land(x, "dry 1");
        }
        check.due("the sixth", Make.land(x, "dry 1"), -4);
        check.due("count(2)", x.count(2), 5);
    }

    static void promise06FullChangesNothing(Check check) {
        check.still("land()", Make::full, VillageRounds::land, -4);
    }

    static void promise06FullLeavesTheTape(Check check) {
        VillageRounds x = Make.full();
        x.land();
        check.due("count(4)", x.count(4), 120);
    }

    static void promise06FullAheadOfAFault(Check check) {
        VillageRounds x = new VillageRounds();
        for (int i = 0; i < 5; i++) {
            Make.land(x, "dry 1");
        }
        check.due("of an empty tape", x.land(), -4);
        check.due("of a fault", Make.land(x, "x"), -4);
        check.due("the tape stays", x.count(4), 1);
    }

    static void promise06TheTapeIsEmptyThen(Check check) {
        VillageRounds x = new VillageRounds();
        Make.land(x, "dry 1");
        check.due("count(4)", x.count(4), 0);
        check.due("the next tape alone", Make.land(x, "dry 2"), 1);
    }

    static void promise06TheTapeIsEmptyByAFaultToo(Check check) {
        VillageRounds x = new VillageRounds();
        Make.land(x, "dry 1;");
        check.due("count(4)", x.count(4), 0);
        check.due("the next tape alone", Make.land(x, "dry 2"), 0);
    }

    static void promise06FaultsAreNoLands(Check check) {
        VillageRounds x = new VillageRounds();
        for (int i = 0; i < 6; i++) {
            check.due("fault", Make.land(x, "dry"), -13);
            check.due("count(2)", x.count(2), 0);
        }
        check.due("the first land", Make.land(x, "dry 1"), 0);
    }

    static void promise06ManyFaultsLeaveNothingBehind(Check check) {
        VillageRounds x = Make.hill("give 7 c=1", 0);
        for (int i = 0; i < 20; i++) {
            Make.land(x, "give 9 c=1|c=1|c=1|c=1|c=1;give 5 !c=1&!c=1&!c=1&c=1;walk 0;x");
            check.due("the one that held", x.gives(0), 7);
        }
        Make.land(x, "give 3 c=1;give 4 c=2");
        check.due("the newest", x.gives(0), 3);
        Make.land(x, "give 3 c=2;give 4 c=1");
        check.due("the newest", x.gives(0), 4);
    }

    static void promise06ByAFaultTheOneThatHeldHolds(Check check) {
        VillageRounds x = Make.hill("give 7 c=1;walk 5;move 3;grow 10;dry 4", 0, 20);
        x.rule(0, 1);
        x.set(1, 4);
        Make.land(x, "give 9 c=1;walk 50;move 9;grow 90;dry 9;");
        check.due("give", x.gives(0), 7);
        check.due("walk", x.gives(1), 0);
        check.due("dry", x.safe(0, 1, 0), 3);
        x.set(1, 50);
        check.due("move", x.year(0, 1), -3);
        check.due("grow", x.set(1, 1), 55);
    }

    static void promise06ByAFaultStillNoLand(Check check) {
        VillageRounds x = Make.hill("give 9 c=1;walk 5;", 0, 20);
        check.due("give", x.gives(0), 0);
        Make.land(x, "give 9 c=1");
        check.due("walk 99 without", x.gives(1), 9);
    }

    static void promise06TheNewestHolds(Check check) {
        VillageRounds x = Make.hill("give 7 c=1;walk 5;move 3;grow 10;dry 4", 0, 20);
        x.rule(0, 1);
        Make.land(x, "give 4 c<9");
        check.due("give", x.gives(0), 4);
        check.due("walk 99 without", x.gives(1), 4);
        x.set(1, 4);
        check.due("dry 0 without", x.safe(0, 1, 0), 1);
        check.due("move 0 without", x.year(0, 1), 0);
        check.due("grow 0 without", x.set(1, 1), 4);
    }

    static void promise06EmptyTapeEndsTooEarly(Check check) {
        fault(check, "", 0);
    }

    /** Where no land has ended the fault is the size. */
    static void promise06EndsTooEarly(Check check) {
        String text = "give 20 c<3&!(y>8|s=1);wear w<2;walk 8;move 15;grow 2;dry 3";
        List<String> lands = List.of("give 20 c<3", "give 20 c<3&!(y>8|s=1)", "give 20 c<3&!(y>8|s=1);wear w<2",
            "give 20 c<3&!(y>8|s=1);wear w<2;walk 8", "give 20 c<3&!(y>8|s=1);wear w<2;walk 8;move 1",
            "give 20 c<3&!(y>8|s=1);wear w<2;walk 8;move 15",
            "give 20 c<3&!(y>8|s=1);wear w<2;walk 8;move 15;grow 2", text);
        for (int size = 0; size <= text.length(); size++) {
            String start = text.substring(0, size);
            if (lands.contains(start)) {
                sound(check, start);
            } else {
                fault(check, start, size);
            }
        }
    }

    static void promise06EndsTooEarlyAtTheTapesEnd(Check check) {
        fault(check, "give 99 c=1;".repeat(9) + "give 99 c=1&", 120);
    }

    /** Wherever a byte comes that no land has, it is the fault. */
    static void promise06TheFirstByteThatCannotBe(Check check) {
        String text = "give 20 c<3&!(y>8|s=1);wear w<2;walk 8;move 15;grow 2;dry 3";
        for (int place = 0; place <= text.length(); place++) {
            for (char b : new char[] {0, 10, 'z', 'C', 128, 255}) {
                fault(check, text.substring(0, place) + b + text.substring(place), place);
            }
        }
    }

    static void promise06AllOf120Bytes(Check check) {
        VillageRounds x = new VillageRounds();
        x.plot(0, 0);
        Make.feed(x, "give 99 c=1;".repeat(9) + "give 99 c<99");
        check.due("count(4)", x.count(4), 120);
        check.due("land()", x.land(), 0);
        check.due("gives(0)", x.gives(0), 990);
    }

    static void promise06TenClauses(Check check) {
        sound(check, TEN_CLAUSES);
    }

    static void promise06NoEleventhClause(Check check) {
        fault(check, TEN_CLAUSES + ";", 59);
        fault(check, TEN_CLAUSES + ";dry 1", 59);
    }

    static void promise06NoEmptyClause(Check check) {
        fault(check, ";", 0);
        fault(check, ";dry 1", 0);
        fault(check, "dry 1;", 6);
        fault(check, "dry 1;;dry 1", 6);
    }

    static void promise06Words(Check check) {
        fault(check, "x", 0);
        fault(check, "Give 1 c=1", 0);
        fault(check, "gave", 1);
        fault(check, "grew", 2);
        fault(check, "walc", 3);
        fault(check, "wet", 2);
        fault(check, "moved", 4);
        fault(check, "dray", 2);
        fault(check, "dry 1dry 1", 5);
        sound(check, "give 0 c=0;wear c=0;walk 0;move 0;grow 0;dry 0");
    }

    static void promise06OneBlankAheadOfEachPart(Check check) {
        fault(check, "walk1", 4);
        fault(check, "give1 c=1", 4);
        fault(check, "give 1c=1", 6);
        fault(check, "wearc=1", 4);
        fault(check, "walk  1", 5);
        fault(check, "give  1 c=1", 5);
        fault(check, "give 1  c=1", 7);
        fault(check, "wear  c=1", 5);
    }

    static void promise06NoBlankElsewhere(Check check) {
        fault(check, " give 1 c=1", 0);
        fault(check, "give 1 c=1 ", 10);
        fault(check, "give 1 c =1", 8);
        fault(check, "give 1 c= 1", 9);
        fault(check, "give 1 c=1 &c=1", 10);
        fault(check, "give 1 c=1& c=1", 11);
        fault(check, "give 1 ( c=1)", 8);
        fault(check, "walk 1 ", 6);
        fault(check, "walk 1 ;dry 1", 6);
        fault(check, "walk 1; dry 1", 7);
    }

    static void promise06NumbersOfNoDigit(Check check) {
        fault(check, "walk ", 5);
        fault(check, "walk x", 5);
        fault(check, "walk ;", 5);
        fault(check, "walk -1", 5);
        fault(check, "give c=1", 5);
        fault(check, "give 1 c=", 9);
        fault(check, "give 1 c=x", 9);
        fault(check, "give 1 c=-1", 9);
    }

    static void promise06NumbersOfOneOrTwoDigits(Check check) {
        sound(check, "give 9 c=9&c<0;walk 0;move 1;grow 2;dry 3");
        sound(check, "give 99 c=99&c<10;walk 10;move 99;grow 10;dry 90");
    }

    static void promise06NumbersOfThreeDigits(Check check) {
        fault(check, "walk 123", 7);
        fault(check, "walk 100", 7);
        fault(check, "give 123 c=1", 7);
        fault(check, "give 1 c=123", 11);
        fault(check, "wear y<300", 9);
    }

    static void promise06No0AheadOfAnotherDigit(Check check) {
        fault(check, "walk 00", 6);
        fault(check, "walk 07", 6);
        fault(check, "give 01 c=1", 6);
        fault(check, "give 1 c=01", 10);
        fault(check, "give 1 c=00", 10);
    }

    static void promise06EachTest(Check check) {
        for (String letter : "c y s w p".split(" ")) {
            for (String sign : "< = >".split(" ")) {
                sound(check, "give 1 " + letter + sign + "10");
                sound(check, "wear " + letter + sign + "0");
            }
        }
        fault(check, "give 1 d=1", 7);
        fault(check, "give 1 c!1", 8);
        fault(check, "give 1 c==1", 9);
        fault(check, "give 1 c<=1", 9);
        fault(check, "wear 1", 5);
        fault(check, "wear =1", 5);
        fault(check, "give 1 <1", 7);
    }

    static void promise06AndOr(Check check) {
        sound(check, "give 99 c<99|y>0&s=3|w<9&p>40");
        fault(check, "give 1 c=1&", 11);
        fault(check, "give 1 c=1|", 11);
        fault(check, "give 1 c=1&&c=1", 11);
        fault(check, "give 1 c=1|&c=1", 11);
        fault(check, "give 1 &c=1", 7);
        fault(check, "give 1 c=1c=1", 10);
        fault(check, "walk 1&c=1", 6);
    }

    static void promise06Brackets(Check check) {
        fault(check, "give 1 ()", 8);
        fault(check, "give 1 )", 7);
        fault(check, "give 1 c=1)", 10);
        fault(check, "give 1 (c=1))", 12);
        fault(check, "give 1 (c=1", 11);
        fault(check, "give 1 (c=1;", 11);
        fault(check, "give 1 (c=1|", 12);
        fault(check, "give 1 (c=1)(", 12);
        fault(check, "give 1 (c=1)c=1", 12);
        fault(check, "give 1 c=1(c=1)", 10);
    }

    static void promise06Nots(Check check) {
        fault(check, "give 1 !", 8);
        fault(check, "give 1 !;", 8);
        fault(check, "give 1 !&c=1", 8);
        fault(check, "give 1 c=1!", 10);
        fault(check, "give 1 c!=1", 8);
        fault(check, "give 1 (!)", 9);
    }

    static void promise06FiveOpen(Check check) {
        sound(check, "wear !!!!!c=1");
        sound(check, "wear (((((c=1)))))");
        sound(check, "wear !(!(!c=1))");
        sound(check, "wear ((((!c=1))))");
        sound(check, "wear !!!!(c=1|c=1)");
        sound(check, "give 1 !!!!!c=1");
        sound(check, "give 1 !(((!c=1)))");
    }

    static void promise06NoSixthOpen(Check check) {
        fault(check, "wear !!!!!!c=1", 10);
        fault(check, "wear ((((((c=1))))))", 10);
        fault(check, "wear !(!(!(c=1)))", 10);
        fault(check, "wear (((((!c=1)))))", 10);
        fault(check, "wear !!!!(!c=1)", 10);
        fault(check, "wear !!!(c=1|!!c=1)", 14);
        fault(check, "give 1 !!!!!!c=1", 12);
        fault(check, "give 1 ((((((c=1))))))", 12);
        fault(check, "walk 1;give 10 !(((!(c=1))))", 20);
    }

    static void promise06ABracketIsOpenTillItsEnd(Check check) {
        sound(check, "wear (((((c=1)))))&(((((c=1)))))|(((((c=1)))))");
        sound(check, "wear ((((c=1)&(c=1)|(c=1))))");
        fault(check, "wear (((((c=1))|(((c=1", 18);
        sound(check, "wear (((((c=1))|(c=1))))");
        fault(check, "wear (((((c=1)))))&!!!!!!c=1", 24);
    }

    static void promise06ANotIsOpenTillItsPartEnds(Check check) {
        sound(check, "wear !c=1&!c=1&!c=1|!c=1&!c=1&!c=1&!c=1");
        sound(check, "wear !!!!!c=1&!!!!!c=1|(((((c=1)))))");
        sound(check, "wear !(!(!c=1&(c=1)))");
        fault(check, "wear !(!(!c=1&((c=1))))", 15);
        fault(check, "wear !(((((c=1)))))", 10);
        sound(check, "wear !((((c=1))))&!((((c=1))))");
    }

    static void promise06TheLastNumberHolds(Check check) {
        VillageRounds x = Make.ruledHill(0, 1, "walk 1;walk 30;move 3;move 9;grow 50;grow 10;dry 9;dry 2;give 8 c<9", 30);
        x.set(1, 8);
        check.due("walk", x.gives(0), 8);
        check.due("dry", x.safe(0, 1, 0), 4);
        x.set(1, 50);
        check.due("move", x.year(0, 1), -9);
        check.due("grow", x.set(1, 1), 55);
        VillageRounds y = Make.ruledHill(0, 1, "walk 30;move 9;grow 50;dry 9;give 8 c<9;walk 1;move 0;grow 0;dry 0", 30);
        y.set(0, 30);
        y.set(1, 8);
        check.due("dry 0", y.safe(0, 1, 0), 1);
        y.set(0, 0);
        check.due("walk 1", y.gives(0), 0);
        check.due("move 0", y.year(0, 1), 0);
        check.due("grow 0", y.set(1, 1), 8);
    }

    static void promise06Walk99Without(Check check) {
        check.due("gives(0)", Make.hill("give 5 c=1", 40).gives(0), 5);
    }

    static void promise06Dry10AtMost(Check check) {
        for (int dry : new int[] {9, 10, 11, 50, 99}) {
            VillageRounds x = Make.ruledHill(0, 1, "give 10 c=1;dry " + dry, 0);
            check.due("safe with dry " + dry, x.safe(0, 1, 0), dry < 10 ? 1 : 0);
            check.due("safe with dry " + dry, x.safe(0, 1, 1), dry < 10 ? 10 : 1);
        }
    }
}
