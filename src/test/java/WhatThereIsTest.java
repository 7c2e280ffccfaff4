/** Promises 8 to 15: coins, schools, tosses, heads, isHeads, tenthsOf, oddsOf, shareOf. */
public final class WhatThereIsTest {
    private static final int[] NEVER = {-1, 12, 1000, Integer.MIN_VALUE, Integer.MAX_VALUE};

    public static void main(String[] args) {
        counts();
        heads();
        isHeads();
        tenthsOf();
        oddsOf();
        shareOf();
        Expect.finish();
    }

    private static void counts() {
        OddsLadder x = Ladders.tossed(Ladders.threeCoins(), "HTHHT");
        Expect.equal("coins()", x.coins(), 3);
        Expect.equal("schools()", x.schools(), 2);
        Expect.equal("tosses()", x.tosses(), 5);
        Expect.equal("coins() at most", Ladders.heaviest().coins(), 8);
        Expect.equal("schools() at most", Ladders.heaviest().schools(), 4);
        Expect.equal("tosses() at most", Ladders.tossed(Ladders.of(5), "HHHHHHHHHHHH").tosses(), 12);
    }

    private static void heads() {
        OddsLadder x = Ladders.tossed(Ladders.threeCoins(), "HTHHT");
        Expect.equal("heads()", x.heads(), 3);
        x.undo();
        Expect.equal("heads() with tails undone", x.heads(), 3);
        x.undo();
        Expect.equal("heads() with heads undone", x.heads(), 2);
        x.strike(0);
        Expect.equal("heads() with heads struck", x.heads(), 1);
        x.strike(0);
        Expect.equal("heads() with tails struck", x.heads(), 1);
        Expect.equal("heads() of twelve", Ladders.tossed(Ladders.of(5), "HHHHHHHHHHHH").heads(), 12);
        Expect.equal("heads() of tails", Ladders.tossed(Ladders.of(5), "TTTTTTTTTTTT").heads(), 0);
    }

    private static void isHeads() {
        OddsLadder x = Ladders.tossed(Ladders.threeCoins(), "HTT");
        Expect.equal("isHeads(0)", x.isHeads(0), true);
        Expect.equal("isHeads(1)", x.isHeads(1), false);
        Expect.equal("isHeads(2)", x.isHeads(2), false);
        Expect.noSuch("isHeads(3) of three", () -> x.isHeads(3));
        x.undo();
        Expect.noSuch("isHeads(2) once undone", () -> x.isHeads(2));
        for (int toss : NEVER) {
            Expect.noSuch("isHeads(" + toss + ")", () -> x.isHeads(toss));
        }
    }

    private static void tenthsOf() {
        OddsLadder x = Ladders.of(0, 10, 7);
        Expect.equal("tenthsOf(0)", x.tenthsOf(0), 0);
        Expect.equal("tenthsOf(1)", x.tenthsOf(1), 10);
        Expect.equal("tenthsOf(2)", x.tenthsOf(2), 7);
        Expect.noSuch("tenthsOf(3) of three", () -> x.tenthsOf(3));
        for (int coin : NEVER) {
            Expect.noSuch("tenthsOf(" + coin + ")", () -> x.tenthsOf(coin));
        }
    }

    private static void oddsOf() {
        OddsLadder x = Ladders.threeCoins();
        Expect.equal("oddsOf(0)", x.oddsOf(0), 3);
        Expect.equal("oddsOf(1)", x.oddsOf(1), 1);
        Expect.noSuch("oddsOf(2) of two", () -> x.oddsOf(2));
        for (int school : NEVER) {
            Expect.noSuch("oddsOf(" + school + ")", () -> x.oddsOf(school));
        }
    }

    private static void shareOf() {
        OddsLadder x = Ladders.threeCoins();
        int[][] due = {{1, 1, 0}, {1, 9, 1}};
        for (int school = 0; school < 2; school++) {
            for (int coin = 0; coin < 3; coin++) {
                Expect.equal("shareOf", x.shareOf(school, coin), due[school][coin]);
            }
        }
        Expect.noSuch("shareOf(2, 0) of two schools", () -> x.shareOf(2, 0));
        Expect.noSuch("shareOf(0, 3) of three coins", () -> x.shareOf(0, 3));
        for (int wrong : NEVER) {
            Expect.noSuch("shareOf(" + wrong + ", 0)", () -> x.shareOf(wrong, 0));
            Expect.noSuch("shareOf(0, " + wrong + ")", () -> x.shareOf(0, wrong));
        }
    }
}
