import java.util.function.Supplier;

/** The boundary cases of promises 8 to 15: what there is. */
public final class WhatThereIsEdgesTest {
    public static void main(String[] args) {
        coins();
        schools();
        tosses();
        heads();
        isHeads();
        isHeadsOfStruckAndUndone();
        tenthsOf();
        oddsOf();
        shareOf();
        shareOfTakesTheSchoolFirst();
        Expect.finish();
    }

    private static void coins() {
        OddsLadder x = new OddsLadder();
        for (int count = 0; count < 8; count++) {
            Expect.equal("P8: coins()", x.coins(), count);
            x.addCoin(count);
        }
        Expect.equal("P8: coins() of 8", x.coins(), 8);
        Expect.badState("P8: a ninth coin", () -> x.addCoin(5));
        Expect.equal("P8: coins() behind a ninth", x.coins(), 8);
    }

    private static void schools() {
        OddsLadder x = new OddsLadder();
        for (int count = 0; count < 4; count++) {
            Expect.equal("P9: schools()", x.schools(), count);
            x.addSchool(count + 1);
        }
        Expect.equal("P9: schools() of 4", x.schools(), 4);
        Expect.badState("P9: a fifth school", () -> x.addSchool(5));
        Expect.equal("P9: schools() behind a fifth", x.schools(), 4);
    }

    private static void tosses() {
        OddsLadder x = Ladders.of(5);
        for (int count = 0; count < 12; count++) {
            Expect.equal("P10: tosses()", x.tosses(), count);
            x.toss(count % 2 == 0);
        }
        Expect.equal("P10: tosses() of 12", x.tosses(), 12);
        Expect.badState("P10: a thirteenth toss", () -> x.toss(true));
        Expect.equal("P10: tosses() behind a thirteenth", x.tosses(), 12);
        x.undo();
        Expect.equal("P10: tosses() behind an undo", x.tosses(), 11);
        x.strike(0);
        Expect.equal("P10: tosses() behind a strike", x.tosses(), 10);
    }

    private static void heads() {
        OddsLadder all = Ladders.of(5);
        OddsLadder none = Ladders.of(5);
        for (int count = 0; count <= 12; count++) {
            Expect.equal("P11: heads() of heads alone", all.heads(), count);
            Expect.equal("P11: heads() of tails alone", none.heads(), 0);
            if (count < 12) {
                all.toss(true);
                none.toss(false);
            }
        }
        Expect.equal("P11: heads() of one tails", Ladders.tossed(Ladders.of(5), "T").heads(), 0);
        OddsLadder x = Ladders.tossed(Ladders.of(5), "HTH");
        x.undo();
        Expect.equal("P11: heads() with heads undone", x.heads(), 1);
        x.strike(0);
        Expect.equal("P11: heads() with heads struck", x.heads(), 0);
    }

    private static void isHeads() {
        Supplier<OddsLadder> three = () -> Ladders.tossed(Ladders.threeCoins(), "HTH");
        Expect.equal("P12: isHeads(0), just inside", three.get().isHeads(0), true);
        Expect.equal("P12: isHeads(1)", three.get().isHeads(1), false);
        Expect.equal("P12: isHeads(2) of three, just inside", three.get().isHeads(2), true);
        for (int toss : new int[] {-1, 3, 11, 12, Integer.MIN_VALUE, Integer.MAX_VALUE}) {
            Refused.noSuch("P12: isHeads(" + toss + ") of three", three, x -> x.isHeads(toss));
        }
        Refused.noSuch("P12: isHeads(0) without tosses", Ladders::threeCoins, x -> x.isHeads(0));
    }

    private static void isHeadsOfStruckAndUndone() {
        OddsLadder x = Ladders.tossed(Ladders.of(5), "HTT");
        x.strike(0);
        Expect.equal("P12: isHeads(0) behind a strike", x.isHeads(0), false);
        Expect.noSuch("P12: isHeads(2) behind a strike", () -> x.isHeads(2));
        x.undo();
        Expect.noSuch("P12: isHeads(1) behind an undo", () -> x.isHeads(1));
        x.toss(true);
        Expect.equal("P12: isHeads(1) behind another toss", x.isHeads(1), true);
    }

    private static void tenthsOf() {
        Supplier<OddsLadder> three = () -> Ladders.of(0, 7, 10);
        Expect.equal("P13: tenthsOf(0), just inside", three.get().tenthsOf(0), 0);
        Expect.equal("P13: tenthsOf(2) of three, just inside", three.get().tenthsOf(2), 10);
        for (int coin : new int[] {-1, 3, 7, 8, Integer.MIN_VALUE, Integer.MAX_VALUE}) {
            Refused.noSuch("P13: tenthsOf(" + coin + ") of three", three, x -> x.tenthsOf(coin));
        }
    }

    private static void oddsOf() {
        Supplier<OddsLadder> two = Ladders::threeCoins;
        Expect.equal("P14: oddsOf(0), just inside", two.get().oddsOf(0), 3);
        Expect.equal("P14: oddsOf(1) of two, just inside", two.get().oddsOf(1), 1);
        for (int school : new int[] {-1, 2, 3, 4, Integer.MIN_VALUE, Integer.MAX_VALUE}) {
            Refused.noSuch("P14: oddsOf(" + school + ") of two", two, x -> x.oddsOf(school));
        }
    }

    private static void shareOf() {
        Supplier<OddsLadder> three = Ladders::threeCoins;
        Expect.equal("P15: shareOf(0, 0), just inside", three.get().shareOf(0, 0), 1);
        Expect.equal("P15: shareOf(1, 2), just inside", three.get().shareOf(1, 2), 1);
        Expect.equal("P15: shareOf(0, 2), a share of 0", three.get().shareOf(0, 2), 0);
        Expect.equal("P15: shareOf(1, 1), a share of 9", three.get().shareOf(1, 1), 9);
        for (int school : new int[] {-1, 2, 3, 4, Integer.MIN_VALUE, Integer.MAX_VALUE}) {
            Refused.noSuch("P15: shareOf(" + school + ", 0)", three, x -> x.shareOf(school, 0));
        }
        for (int coin : new int[] {-1, 3, 7, 8, Integer.MIN_VALUE, Integer.MAX_VALUE}) {
            Refused.noSuch("P15: shareOf(0, " + coin + ")", three, x -> x.shareOf(0, coin));
        }
        Refused.noSuch("P15: shareOf(2, 3), neither", three, x -> x.shareOf(2, 3));
    }

    private static void shareOfTakesTheSchoolFirst() {
        OddsLadder x = Ladders.full();
        x.setShare(3, 7, 4);
        Expect.equal("P15: shareOf(3, 7) of the full ladder", x.shareOf(3, 7), 4);
        Expect.noSuch("P15: shareOf(7, 3) of the full ladder", () -> x.shareOf(7, 3));
        x.setShare(1, 2, 9);
        x.setShare(2, 1, 0);
        Expect.equal("P15: shareOf(1, 2)", x.shareOf(1, 2), 9);
        Expect.equal("P15: shareOf(2, 1)", x.shareOf(2, 1), 0);
    }
}
