import java.util.function.Supplier;

/** The boundary cases of promises 5 to 7: toss, undo, strike. */
public final class TossesEdgesTest {
    private static final String TWELVE = "HTHTHTHTHTHT";

    public static void main(String[] args) {
        twelveTosses();
        tossesThatCanJustBe();
        tossesThatCannotBe();
        tossWhereSeveralApply();
        undoOfOne();
        undoOfTwelve();
        strikeNumbers();
        strikeFirstMiddleAndLast();
        strikeOfTwelve();
        Expect.finish();
    }

    private static void twelveTosses() {
        for (boolean isHeads : new boolean[] {true, false}) {
            OddsLadder x = Ladders.tossed(Ladders.of(5), "HTHTHTHTHTH");
            Expect.equal("P5: the twelfth toss", x.toss(isHeads), 1);
            Expect.equal("P5: tosses with the twelfth", x.tosses(), 12);
            Expect.equal("P5: what the twelfth is", x.isHeads(11), isHeads);
            Refused.badState("P5: a thirteenth toss",
                () -> Ladders.tossed(Ladders.of(4, 5), TWELVE), y -> y.toss(isHeads));
            Refused.badState("P5: a thirteenth toss on the full ladder", Ladders::fullTossed,
                y -> y.toss(isHeads));
        }
    }

    /** A chance of 1 is the smallest that is not 0. */
    private static void tossesThatCanJustBe() {
        Expect.equal("P5: heads of 1 tenth", Ladders.of(1).toss(true), 3);
        Expect.equal("P5: tails of 9 tenths", Ladders.of(9).toss(false), 3);
        // 1 of 80, and 64 of 80 when it is doubled 6 times.
        Expect.equal("P5: heads of one coin in eight",
            Ladders.of(0, 0, 0, 0, 0, 0, 0, 1).toss(true), 6);
        Expect.equal("P5: tails of one coin in eight",
            Ladders.of(9, 10, 10, 10, 10, 10, 10, 10).toss(false), 6);
    }

    private static void tossesThatCannotBe() {
        Refused.badState("P5: heads of 0 tenths", () -> Ladders.of(0, 0), x -> x.toss(true));
        Refused.badState("P5: tails of 10 tenths", () -> Ladders.of(10, 10), x -> x.toss(false));
        Expect.equal("P5: tails of 0 tenths", Ladders.of(0, 0).toss(false), 0);
        Expect.equal("P5: heads of 10 tenths", Ladders.of(10, 10).toss(true), 0);
        Refused.badState("P5: heads of a coin without a share",
            () -> Ladders.shared(new int[] {0, 7}, 1, 0), x -> x.toss(true));
        Refused.badState("P5: tails of a coin without a share",
            () -> Ladders.shared(new int[] {10, 7}, 1, 0), x -> x.toss(false));
        Refused.badState("P5: tails once heads ruled the others out",
            () -> Ladders.tossed(Ladders.of(0, 10), "H"), x -> x.toss(false));
        Refused.badState("P5: heads once tails ruled the others out",
            () -> Ladders.tossed(Ladders.of(0, 10), "T"), x -> x.toss(true));
        OddsLadder x = Ladders.tossed(Ladders.of(0, 10), "H");
        Expect.badState("P5: tails that cannot be", () -> x.toss(false));
        x.undo();
        Expect.equal("P5: tails that can be once heads is undone", x.toss(false), 1);
    }

    private static void tossWhereSeveralApply() {
        Refused.badState("P5: a thirteenth toss that cannot be",
            () -> Ladders.tossed(Ladders.of(10), "HHHHHHHHHHHH"), x -> x.toss(false));
        Refused.badState("P5: a thirteenth toss that could be",
            () -> Ladders.tossed(Ladders.of(10), "HHHHHHHHHHHH"), x -> x.toss(true));
    }

    private static void undoOfOne() {
        for (boolean isHeads : new boolean[] {true, false}) {
            OddsLadder x = Ladders.of(5);
            x.toss(isHeads);
            Expect.equal("P6: undo of the only toss", x.undo(), isHeads);
            Expect.equal("P6: tosses behind it", x.tosses(), 0);
            Expect.badState("P6: undo once more", x::undo);
        }
        Refused.badState("P6: undo without tosses", Ladders::threeCoins, x -> x.undo());
        Refused.badState("P6: undo on a full ladder without tosses", Ladders::full, x -> x.undo());
        Refused.badState("P6: undo once all are struck", () -> {
            OddsLadder x = Ladders.tossed(Ladders.of(5), "H");
            x.strike(0);
            return x;
        }, x -> x.undo());
    }

    private static void undoOfTwelve() {
        OddsLadder x = Ladders.fullTossed();
        String row = Ladders.row(x);
        for (int left = 11; left >= 0; left--) {
            Expect.equal("P6: undo of one of twelve", x.undo(), row.charAt(left) == 'H');
            Expect.equal("P6: the row behind it", Ladders.row(x), row.substring(0, left));
        }
        Expect.equal("P6: all undone", x.digest(), Ladders.full().digest());
        OddsLadder again = Ladders.tossed(Ladders.of(5), TWELVE);
        again.undo();
        Expect.equal("P6: a toss in the place of the twelfth", again.toss(true), 1);
        Expect.badState("P6: and no thirteenth", () -> again.toss(true));
    }

    private static void strikeNumbers() {
        Supplier<OddsLadder> three = () -> Ladders.tossed(Ladders.threeCoins(), "HHT");
        Expect.equal("P7: strike(0), just inside", three.get().strike(0), 2);
        Expect.equal("P7: strike(2) of three, just inside", three.get().strike(2), 2);
        for (int toss : new int[] {-1, 3, 11, 12, Integer.MIN_VALUE, Integer.MAX_VALUE}) {
            Refused.noSuch("P7: strike(" + toss + ") of three", three, x -> x.strike(toss));
        }
        Refused.noSuch("P7: strike(0) without tosses", Ladders::threeCoins, x -> x.strike(0));
        OddsLadder one = Ladders.tossed(Ladders.of(5), "H");
        Expect.equal("P7: strike of the only toss", one.strike(0), 0);
        Expect.noSuch("P7: strike once more", () -> one.strike(0));
        OddsLadder undone = Ladders.tossed(Ladders.of(5), "HT");
        undone.undo();
        Expect.noSuch("P7: strike of one that is undone", () -> undone.strike(1));
    }

    private static void strikeFirstMiddleAndLast() {
        String row = "HTTHT";
        for (int toss = 0; toss < 5; toss++) {
            OddsLadder x = Ladders.tossed(Ladders.threeCoins(), row);
            Expect.equal("P7: strike(" + toss + ")", x.strike(toss), 4);
            String due = row.substring(0, toss) + row.substring(toss + 1);
            Expect.equal("P7: the row behind strike(" + toss + ")", Ladders.row(x), due);
            Expect.equal("P7: as if it had never been",
                x.digest(), Ladders.tossed(Ladders.threeCoins(), due).digest());
        }
    }

    private static void strikeOfTwelve() {
        String row = Ladders.row(Ladders.fullTossed());
        for (int toss = 0; toss < 12; toss++) {
            OddsLadder x = Ladders.fullTossed();
            Expect.equal("P7: strike of one of twelve", x.strike(toss), 11);
            Expect.equal("P7: the row of eleven", Ladders.row(x),
                row.substring(0, toss) + row.substring(toss + 1));
            Expect.noSuch("P7: isHeads(11) of eleven", () -> x.isHeads(11));
            x.toss(true);
            Expect.equal("P7: a toss comes last", x.isHeads(11), true);
        }
    }
}
