/** Promises 5 to 7: toss, undo, strike. */
public final class TossesTest {
    public static void main(String[] args) {
        toss();
        tossThatCannotBe();
        tossBeyondTwelve();
        undo();
        strike();
        strikeRefused();
        Expect.finish();
    }

    private static void toss() {
        OddsLadder x = Ladders.threeCoins();
        // Chances of heads: 129 of 170; then 1073 of 1290; then 9249 of 10730.
        Expect.equal("the first heads", x.toss(true), 0);
        Expect.equal("the second heads", x.toss(true), 0);
        Expect.equal("the third heads", x.toss(true), 0);
        // Chance of tails: 11257 of 92490, which is 8.2 times as much.
        Expect.equal("tails behind them", x.toss(false), 3);
        Expect.equal("the row", Ladders.row(x), "HHHT");
        Expect.equal("tosses behind four", x.tosses(), 4);

        OddsLadder even = Ladders.of(5);
        Expect.equal("heads of even odds, just twice", even.toss(true), 1);
        Expect.equal("tails of even odds, just twice", even.toss(false), 1);
        Expect.equal("heads of 6 tenths", Ladders.of(6).toss(true), 0);
        Expect.equal("tails of 6 tenths", Ladders.of(6).toss(false), 1);
        Expect.equal("heads of 1 tenth", Ladders.of(1).toss(true), 3);
        Expect.equal("tails of 9 tenths", Ladders.of(9).toss(false), 3);
        Expect.equal("heads of 2 tenths", Ladders.of(2).toss(true), 2);
        Expect.equal("heads of 10 tenths", Ladders.of(10).toss(true), 0);
    }

    private static void tossThatCannotBe() {
        OddsLadder nothing = Ladders.empty();
        Expect.badState("heads on an empty ladder", () -> nothing.toss(true));
        Expect.badState("tails on an empty ladder", () -> nothing.toss(false));
        OddsLadder noSchool = Ladders.empty();
        noSchool.addCoin(5);
        Expect.badState("heads without schools", () -> noSchool.toss(true));
        OddsLadder noCoin = Ladders.of();
        Expect.badState("tails without coins", () -> noCoin.toss(false));
        OddsLadder headsAlone = Ladders.of(10, 10);
        Expect.badState("tails of coins with 10 tenths", () -> headsAlone.toss(false));
        Expect.equal("tosses behind a refused one", headsAlone.tosses(), 0);
        Expect.equal("heads of coins with 10 tenths", headsAlone.toss(true), 0);
        OddsLadder tailsAlone = Ladders.of(0);
        Expect.badState("heads of a coin with 0 tenths", () -> tailsAlone.toss(true));
        OddsLadder noShare = Ladders.of(0, 7);
        noShare.setShare(0, 1, 0);
        Expect.badState("heads of a coin without a share", () -> noShare.toss(true));
        OddsLadder ruledOut = Ladders.tossed(Ladders.of(0, 10), "H");
        long before = ruledOut.digest();
        Expect.badState("tails once the coin for it is ruled out", () -> ruledOut.toss(false));
        Expect.equal("digest behind a refused toss", ruledOut.digest(), before);
    }

    private static void tossBeyondTwelve() {
        OddsLadder x = Ladders.of(5, 4);
        for (int toss = 0; toss < 12; toss++) {
            x.toss(toss % 3 == 0);
            Expect.equal("tosses", x.tosses(), toss + 1);
        }
        long before = x.digest();
        Expect.badState("a thirteenth heads", () -> x.toss(true));
        Expect.badState("a thirteenth tails", () -> x.toss(false));
        Expect.equal("digest behind a thirteenth toss", x.digest(), before);
        Expect.equal("the row of twelve", Ladders.row(x), "HTTHTTHTTHTT");
        Expect.equal("undo of the twelfth", x.undo(), false);
        x.toss(true);
        Expect.equal("the row with another twelfth", Ladders.row(x), "HTTHTTHTTHTH");
    }

    private static void undo() {
        OddsLadder x = Ladders.threeCoins();
        long start = x.digest();
        Expect.badState("undo without tosses", x::undo);
        Expect.equal("digest behind a refused undo", x.digest(), start);
        Ladders.tossed(x, "HT");
        Expect.equal("undo of tails", x.undo(), false);
        Expect.equal("the row behind an undo", Ladders.row(x), "H");
        Expect.equal("wholeWeight behind an undo", x.wholeWeight(), 129L);
        Expect.equal("undo of heads", x.undo(), true);
        Expect.equal("digest with all undone", x.digest(), start);
        Expect.badState("undo with all undone", x::undo);
    }

    private static void strike() {
        OddsLadder x = Ladders.tossed(Ladders.threeCoins(), "HTTHT");
        Expect.equal("strike of a middle toss", x.strike(1), 4);
        Expect.equal("the row without it", Ladders.row(x), "HTHT");
        Expect.equal("strike of the first", x.strike(0), 3);
        Expect.equal("the row without the first", Ladders.row(x), "THT");
        Expect.equal("strike of the last", x.strike(2), 2);
        Expect.equal("the row without the last", Ladders.row(x), "TH");
        Expect.equal("digest is that of the row alone", x.digest(),
            Ladders.tossed(Ladders.threeCoins(), "TH").digest());
        x.strike(1);
        Expect.equal("strike of the only one", x.strike(0), 0);
        Expect.equal("digest with all struck", x.digest(), Ladders.threeCoins().digest());

        OddsLadder twelve = Ladders.tossed(Ladders.of(5), "HHTHTTHTHHTT");
        Expect.equal("strike of the first of twelve", twelve.strike(0), 11);
        Expect.equal("the row of eleven", Ladders.row(twelve), "HTHTTHTHHTT");
        twelve.toss(true);
        Expect.equal("strike of the twelfth", twelve.strike(11), 11);
        Expect.equal("the same row again", Ladders.row(twelve), "HTHTTHTHHTT");
        struckCoinsComeBack();
    }

    private static void struckCoinsComeBack() {
        OddsLadder x = Ladders.tossed(Ladders.of(10, 0, 4), "HT");
        Expect.equal("ruledOut by heads and tails", x.ruledOut(), 2);
        x.strike(0);
        Expect.equal("isRuledOut(0) by tails", x.isRuledOut(0), true);
        Expect.equal("isRuledOut(1) with its heads struck", x.isRuledOut(1), false);
    }

    private static void strikeRefused() {
        OddsLadder x = Ladders.tossed(Ladders.threeCoins(), "HHT");
        long before = x.digest();
        int[] wrong = {-1, 3, 4, 11, 12, 13, Integer.MIN_VALUE, Integer.MAX_VALUE};
        for (int toss : wrong) {
            Expect.noSuch("strike(" + toss + ")", () -> x.strike(toss));
        }
        Expect.equal("digest behind refused strikes", x.digest(), before);
        OddsLadder nothing = Ladders.empty();
        Expect.noSuch("strike(0) without tosses", () -> nothing.strike(0));
    }
}
