/** The boundary cases of promises 2 to 4: addCoin, addSchool, setShare. */
public final class LadderEdgesTest {
    public static void main(String[] args) {
        addCoinTenths();
        addCoinEight();
        addCoinWithTosses();
        addCoinWhereSeveralApply();
        addSchoolOdds();
        addSchoolFour();
        addSchoolWithTosses();
        addSchoolWhereSeveralApply();
        setShareNumbers();
        setShareOfAFullLadder();
        setShareShares();
        setShareWithTosses();
        setShareWhereSeveralApply();
        Expect.finish();
    }

    private static OddsLadder oneToss() {
        return Ladders.tossed(Ladders.threeCoins(), "H");
    }

    private static OddsLadder fourSchools(int... tenths) {
        OddsLadder x = Ladders.coinsAlone(tenths);
        for (int odds = 1; odds <= 4; odds++) {
            x.addSchool(odds);
        }
        return x;
    }

    private static void addCoinTenths() {
        Expect.equal("P2: addCoin(0), just inside", Ladders.of(5).addCoin(0), 1);
        Expect.equal("P2: addCoin(10), just inside", Ladders.of(5).addCoin(10), 1);
        for (int tenths : new int[] {-1, 11, Integer.MIN_VALUE, Integer.MAX_VALUE}) {
            Refused.badArgument("P2: addCoin(" + tenths + "), outside", Ladders::threeCoins,
                x -> x.addCoin(tenths));
        }
    }

    private static void addCoinEight() {
        OddsLadder x = Ladders.of(1, 2, 3, 4, 5, 6, 7);
        Expect.equal("P2: the eighth coin", x.addCoin(8), 7);
        Expect.equal("P2: coins with the eighth", x.coins(), 8);
        Expect.equal("P2: the eighth coin's tenths", x.tenthsOf(7), 8);
        Expect.equal("P2: the eighth coin's share", x.shareOf(0, 7), 1);
        Refused.badState("P2: a ninth coin", Ladders::full, y -> y.addCoin(5));
        Refused.badState("P2: a ninth coin with room for schools",
            () -> Ladders.of(1, 2, 3, 4, 5, 6, 7, 8), y -> y.addCoin(5));
        Refused.badState("P2: a ninth coin without schools",
            () -> Ladders.coinsAlone(1, 2, 3, 4, 5, 6, 7, 8), y -> y.addCoin(5));
    }

    private static void addCoinWithTosses() {
        for (boolean isHeads : new boolean[] {true, false}) {
            OddsLadder x = Ladders.of(5);
            x.toss(isHeads);
            Expect.badState("P2: addCoin with one toss", () -> x.addCoin(5));
            x.undo();
            Expect.equal("P2: addCoin once it is undone", x.addCoin(5), 1);
            x.toss(isHeads);
            x.toss(isHeads);
            x.strike(0);
            Expect.badState("P2: addCoin with one of two struck", () -> x.addCoin(5));
            x.strike(0);
            Expect.equal("P2: addCoin once both are struck", x.addCoin(5), 2);
        }
        Refused.badState("P2: addCoin with one toss", LadderEdgesTest::oneToss, x -> x.addCoin(5));
        Refused.badState("P2: addCoin to a full ladder with tosses", Ladders::fullTossed,
            x -> x.addCoin(5));
    }

    private static void addCoinWhereSeveralApply() {
        for (int tenths : new int[] {-1, 11}) {
            Refused.badArgument("P2: wrong tenths and 8 coins", Ladders::full,
                x -> x.addCoin(tenths));
            Refused.badArgument("P2: wrong tenths and a toss", LadderEdgesTest::oneToss,
                x -> x.addCoin(tenths));
            Refused.badArgument("P2: wrong tenths, 8 coins and tosses", Ladders::fullTossed,
                x -> x.addCoin(tenths));
        }
    }

    private static void addSchoolOdds() {
        Expect.equal("P3: addSchool(1), just inside", Ladders.of(5).addSchool(1), 1);
        Expect.equal("P3: addSchool(9), just inside", Ladders.of(5).addSchool(9), 1);
        for (int odds : new int[] {-1, 0, 10, Integer.MIN_VALUE, Integer.MAX_VALUE}) {
            Refused.badArgument("P3: addSchool(" + odds + "), outside", Ladders::threeCoins,
                x -> x.addSchool(odds));
        }
    }

    private static void addSchoolFour() {
        OddsLadder x = Ladders.threeCoins();
        x.addSchool(2);
        Expect.equal("P3: the fourth school", x.addSchool(8), 3);
        Expect.equal("P3: schools with the fourth", x.schools(), 4);
        Expect.equal("P3: the fourth school's odds", x.oddsOf(3), 8);
        for (int coin = 0; coin < 3; coin++) {
            Expect.equal("P3: the fourth school's share", x.shareOf(3, coin), 1);
        }
        Refused.badState("P3: a fifth school", Ladders::full, y -> y.addSchool(5));
        Refused.badState("P3: a fifth school with room for coins", () -> fourSchools(5, 6),
            y -> y.addSchool(5));
        Refused.badState("P3: a fifth school without coins", () -> fourSchools(),
            y -> y.addSchool(5));
    }

    private static void addSchoolWithTosses() {
        for (boolean isHeads : new boolean[] {true, false}) {
            OddsLadder x = Ladders.of(5);
            x.toss(isHeads);
            Expect.badState("P3: addSchool with one toss", () -> x.addSchool(5));
            x.strike(0);
            Expect.equal("P3: addSchool once it is struck", x.addSchool(5), 1);
            x.toss(isHeads);
            x.toss(isHeads);
            x.undo();
            Expect.badState("P3: addSchool with one of two undone", () -> x.addSchool(5));
            x.undo();
            Expect.equal("P3: addSchool once both are undone", x.addSchool(5), 2);
        }
        Refused.badState("P3: addSchool with one toss", LadderEdgesTest::oneToss,
            x -> x.addSchool(5));
        Refused.badState("P3: addSchool to a full ladder with tosses", Ladders::fullTossed,
            x -> x.addSchool(5));
    }

    private static void addSchoolWhereSeveralApply() {
        for (int odds : new int[] {0, 10}) {
            Refused.badArgument("P3: wrong odds and 4 schools", Ladders::full,
                x -> x.addSchool(odds));
            Refused.badArgument("P3: wrong odds and a toss", LadderEdgesTest::oneToss,
                x -> x.addSchool(odds));
            Refused.badArgument("P3: wrong odds, 4 schools and tosses", Ladders::fullTossed,
                x -> x.addSchool(odds));
        }
    }

    private static void setShareNumbers() {
        // Three coins and two schools.
        Expect.equal("P4: the first of both", Ladders.threeCoins().setShare(0, 0, 5), 1);
        Expect.equal("P4: the last of both", Ladders.threeCoins().setShare(1, 2, 5), 1);
        int[][] outside = {{-1, 0}, {2, 0}, {0, -1}, {0, 3}, {2, 2}, {2, 3}, {-1, -1},
            {Integer.MIN_VALUE, 0}, {Integer.MAX_VALUE, 0},
            {0, Integer.MIN_VALUE}, {0, Integer.MAX_VALUE}};
        for (int[] at : outside) {
            Refused.noSuch("P4: setShare(" + at[0] + ", " + at[1] + ", 5)", Ladders::threeCoins,
                x -> x.setShare(at[0], at[1], 5));
        }
    }

    private static void setShareOfAFullLadder() {
        OddsLadder x = Ladders.full();
        for (int school = 0; school < 4; school++) {
            for (int coin = 0; coin < 8; coin++) {
                int before = (3 * school + 7 * coin) % 10;
                Expect.equal("P4: the share before", x.setShare(school, coin, 9 - before), before);
            }
        }
        for (int school = 0; school < 4; school++) {
            for (int coin = 0; coin < 8; coin++) {
                int due = 9 - (3 * school + 7 * coin) % 10;
                Expect.equal("P4: the share from now on", x.shareOf(school, coin), due);
            }
        }
        int[][] outside = {{4, 7}, {3, 8}, {-1, 7}, {3, -1}, {7, 3}, {4, 8}};
        for (int[] at : outside) {
            Refused.noSuch("P4: setShare(" + at[0] + ", " + at[1] + ", 5) of the full ladder",
                Ladders::full, y -> y.setShare(at[0], at[1], 5));
        }
    }

    private static void setShareShares() {
        OddsLadder x = Ladders.threeCoins();
        Expect.equal("P4: a share of 0, just inside", x.setShare(1, 1, 0), 9);
        Expect.equal("P4: a share of 9, just inside", x.setShare(1, 1, 9), 0);
        Expect.equal("P4: the same share", x.setShare(1, 1, 9), 9);
        Expect.equal("P4: it stays", x.shareOf(1, 1), 9);
        for (int share : new int[] {-1, 10, Integer.MIN_VALUE, Integer.MAX_VALUE}) {
            Refused.badArgument("P4: a share of " + share + ", outside", Ladders::threeCoins,
                y -> y.setShare(1, 1, share));
        }
    }

    private static void setShareWithTosses() {
        for (boolean isHeads : new boolean[] {true, false}) {
            OddsLadder x = Ladders.of(5);
            x.toss(isHeads);
            Expect.badState("P4: setShare with one toss", () -> x.setShare(0, 0, 5));
            x.undo();
            Expect.equal("P4: setShare once it is undone", x.setShare(0, 0, 5), 1);
            x.toss(isHeads);
            Expect.badState("P4: setShare with one toss again", () -> x.setShare(0, 0, 5));
            x.strike(0);
            Expect.equal("P4: setShare once it is struck", x.setShare(0, 0, 7), 5);
        }
        Refused.badState("P4: setShare with one toss", LadderEdgesTest::oneToss,
            x -> x.setShare(1, 1, 5));
        Refused.badState("P4: setShare of the same share with one toss", LadderEdgesTest::oneToss,
            x -> x.setShare(1, 1, 9));
        Refused.badState("P4: setShare of the full ladder with tosses", Ladders::fullTossed,
            x -> x.setShare(3, 7, 5));
    }

    private static void setShareWhereSeveralApply() {
        int[][] outside = {{-1, 0}, {2, 0}, {0, -1}, {0, 3}};
        for (int[] at : outside) {
            for (int share : new int[] {-1, 10}) {
                Refused.noSuch("P4: no such one, and a wrong share", Ladders::threeCoins,
                    x -> x.setShare(at[0], at[1], share));
                Refused.noSuch("P4: no such one, a wrong share and a toss",
                    LadderEdgesTest::oneToss, x -> x.setShare(at[0], at[1], share));
            }
            Refused.noSuch("P4: no such one, and a toss", LadderEdgesTest::oneToss,
                x -> x.setShare(at[0], at[1], 5));
        }
        for (int share : new int[] {-1, 10}) {
            Refused.badArgument("P4: a wrong share and a toss", LadderEdgesTest::oneToss,
                x -> x.setShare(1, 1, share));
        }
    }
}
