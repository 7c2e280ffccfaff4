/** Promises 16 to 26: weights, who is ruled out, percents, who leads, oddsAgainst. */
public final class WeightsTest {
    private static final int[] NEVER = {-1, 8, 1000, Integer.MIN_VALUE, Integer.MAX_VALUE};

    public static void main(String[] args) {
        weights();
        weightsBehindTosses();
        greatestWeights();
        weightsRefused();
        ruledOut();
        percents();
        percentsRefused();
        leadingCoin();
        leadingSchool();
        leadersRefused();
        oddsAgainst();
        oddsAgainstRefused();
        Expect.finish();
    }

    private static void due(OddsLadder x, long[][] weights) {
        long whole = 0;
        for (int school = 0; school < weights.length; school++) {
            long sum = 0;
            for (int coin = 0; coin < weights[school].length; coin++) {
                Expect.equal("weightOf(" + school + ", " + coin + ")", x.weightOf(school, coin),
                    weights[school][coin]);
                sum += weights[school][coin];
            }
            Expect.equal("schoolWeight(" + school + ")", x.schoolWeight(school), sum);
            whole += sum;
        }
        for (int coin = 0; coin < weights[0].length; coin++) {
            long sum = 0;
            for (long[] school : weights) {
                sum += school[coin];
            }
            Expect.equal("coinWeight(" + coin + ")", x.coinWeight(coin), sum);
        }
        Expect.equal("wholeWeight()", x.wholeWeight(), whole);
    }

    private static void weights() {
        due(Ladders.threeCoins(), new long[][] {{3, 3, 0}, {1, 9, 1}});
        Expect.equal("wholeWeight of an empty ladder", Ladders.empty().wholeWeight(), 0L);
        OddsLadder noSchool = Ladders.empty();
        noSchool.addCoin(5);
        Expect.equal("wholeWeight without schools", noSchool.wholeWeight(), 0L);
        Expect.equal("coinWeight without schools", noSchool.coinWeight(0), 0L);
        OddsLadder noCoin = Ladders.of();
        Expect.equal("wholeWeight without coins", noCoin.wholeWeight(), 0L);
        Expect.equal("schoolWeight without coins", noCoin.schoolWeight(0), 0L);
    }

    private static void weightsBehindTosses() {
        OddsLadder x = Ladders.threeCoins();
        x.toss(true);
        due(x, new long[][] {{15, 27, 0}, {5, 81, 1}});
        x.toss(false);
        due(x, new long[][] {{75, 27, 0}, {25, 81, 9}});
        Ladders.tossed(x, "HH");
        due(x, new long[][] {{1875, 2187, 0}, {625, 6561, 9}});
        x.strike(1);
        due(x, new long[][] {{375, 2187, 0}, {125, 6561, 1}});
        due(Ladders.tossed(Ladders.of(0, 10), "H"), new long[][] {{0, 10}});
        due(Ladders.tossed(Ladders.of(0, 10), "T"), new long[][] {{10, 0}});
        due(Ladders.tossed(Ladders.of(2, 7), "HTT"), new long[][] {{128, 63}});
    }

    private static void greatestWeights() {
        OddsLadder x = Ladders.tossed(Ladders.heaviest(), "HHHHHHHHHHHH");
        Expect.equal("the greatest weightOf", x.weightOf(3, 7), 81_000_000_000_000L);
        Expect.equal("the greatest coinWeight", x.coinWeight(7), 324_000_000_000_000L);
        Expect.equal("the greatest schoolWeight", x.schoolWeight(3), 648_000_000_000_000L);
        Expect.equal("the greatest wholeWeight", x.wholeWeight(), 2_592_000_000_000_000L);
        Expect.equal("coinPercent of the heaviest", x.coinPercent(0), 12);
        Expect.equal("schoolPercent of the heaviest", x.schoolPercent(3), 25);
        Expect.equal("headsPercent of the heaviest", x.headsPercent(), 100);
        Expect.equal("meanTenths of the heaviest", x.meanTenths(), 10.0);
        Expect.equal("wouldSurprise of the heaviest", x.wouldSurprise(true), 0);
        Expect.equal("leaderBehind of the heaviest", x.leaderBehind(true), 0);
    }

    private static void weightsRefused() {
        OddsLadder x = Ladders.threeCoins();
        Expect.noSuch("weightOf(2, 0)", () -> x.weightOf(2, 0));
        Expect.noSuch("weightOf(0, 3)", () -> x.weightOf(0, 3));
        Expect.noSuch("coinWeight(3)", () -> x.coinWeight(3));
        Expect.noSuch("schoolWeight(2)", () -> x.schoolWeight(2));
        for (int wrong : NEVER) {
            Expect.noSuch("weightOf(" + wrong + ", 0)", () -> x.weightOf(wrong, 0));
            Expect.noSuch("weightOf(0, " + wrong + ")", () -> x.weightOf(0, wrong));
            Expect.noSuch("coinWeight(" + wrong + ")", () -> x.coinWeight(wrong));
            Expect.noSuch("schoolWeight(" + wrong + ")", () -> x.schoolWeight(wrong));
        }
    }

    private static void ruledOut() {
        OddsLadder x = Ladders.of(0, 10, 5, 5);
        x.setShare(0, 3, 0);
        ruledOutDue(x, false, false, false, true);
        x.toss(true);
        ruledOutDue(x, true, false, false, true);
        x.toss(false);
        ruledOutDue(x, true, true, false, true);
        x.strike(0);
        ruledOutDue(x, false, true, false, true);
        Expect.noSuch("isRuledOut(4)", () -> x.isRuledOut(4));
        for (int wrong : NEVER) {
            Expect.noSuch("isRuledOut(" + wrong + ")", () -> x.isRuledOut(wrong));
        }
        Expect.equal("ruledOut of an empty ladder", Ladders.empty().ruledOut(), 0);
        OddsLadder noSchool = Ladders.empty();
        noSchool.addCoin(5);
        noSchool.addCoin(6);
        ruledOutDue(noSchool, true, true);
    }

    private static void ruledOutDue(OddsLadder x, boolean... due) {
        int count = 0;
        for (int coin = 0; coin < due.length; coin++) {
            Expect.equal("isRuledOut(" + coin + ")", x.isRuledOut(coin), due[coin]);
            count += due[coin] ? 1 : 0;
        }
        Expect.equal("ruledOut()", x.ruledOut(), count);
    }

    private static void percents() {
        OddsLadder x = Ladders.threeCoins();
        // Of 17: coins 4, 12 and 1; schools 6 and 11.
        Expect.equal("coinPercent(0)", x.coinPercent(0), 23);
        Expect.equal("coinPercent(1)", x.coinPercent(1), 70);
        Expect.equal("coinPercent(2)", x.coinPercent(2), 5);
        Expect.equal("schoolPercent(0)", x.schoolPercent(0), 35);
        Expect.equal("schoolPercent(1)", x.schoolPercent(1), 64);
        Ladders.tossed(x, "HHHT");
        // Of 11257: coins 2500, 8748 and 9; schools 4062 and 7195.
        Expect.equal("coinPercent(0) behind tosses", x.coinPercent(0), 22);
        Expect.equal("coinPercent(1) behind tosses", x.coinPercent(1), 77);
        Expect.equal("coinPercent(2) behind tosses", x.coinPercent(2), 0);
        Expect.equal("schoolPercent(0) behind tosses", x.schoolPercent(0), 36);
        Expect.equal("schoolPercent(1) behind tosses", x.schoolPercent(1), 63);
        OddsLadder sure = Ladders.tossed(Ladders.of(10, 0), "H");
        Expect.equal("coinPercent of the only one left", sure.coinPercent(0), 100);
        Expect.equal("coinPercent of a ruled out one", sure.coinPercent(1), 0);
        Expect.equal("schoolPercent of the only one", sure.schoolPercent(0), 100);
    }

    private static void percentsRefused() {
        OddsLadder x = Ladders.threeCoins();
        Expect.noSuch("coinPercent(3)", () -> x.coinPercent(3));
        Expect.noSuch("schoolPercent(2)", () -> x.schoolPercent(2));
        OddsLadder weightless = Ladders.of(5);
        weightless.setShare(0, 0, 0);
        Expect.badState("coinPercent(0) of nothing", () -> weightless.coinPercent(0));
        Expect.badState("schoolPercent(0) of nothing", () -> weightless.schoolPercent(0));
        Expect.noSuch("coinPercent(1) of nothing", () -> weightless.coinPercent(1));
        Expect.noSuch("schoolPercent(1) of nothing", () -> weightless.schoolPercent(1));
        for (int wrong : NEVER) {
            Expect.noSuch("coinPercent(" + wrong + ")", () -> x.coinPercent(wrong));
            Expect.noSuch("schoolPercent(" + wrong + ")", () -> x.schoolPercent(wrong));
        }
    }

    private static void leadingCoin() {
        OddsLadder x = Ladders.threeCoins();
        Expect.equal("leadingCoin()", x.leadingCoin(), 1);
        Ladders.tossed(x, "TTTT");
        // Coins 2500, 12 and 6561.
        Expect.equal("leadingCoin() behind tails", x.leadingCoin(), 2);
        Expect.equal("leadingCoin() of equal ones", Ladders.of(5, 5, 5).leadingCoin(), 0);
        Expect.equal("leadingCoin() of three, the last two equal",
            Ladders.tossed(Ladders.of(4, 6, 6), "H").leadingCoin(), 1);
        OddsLadder lastAlone = Ladders.of(5, 5, 5);
        lastAlone.setShare(0, 0, 0);
        lastAlone.setShare(0, 1, 0);
        Expect.equal("leadingCoin() of the last one alone", lastAlone.leadingCoin(), 2);
        OddsLadder bySchools = Ladders.of(5, 5);
        bySchools.addSchool(2);
        bySchools.setShare(0, 0, 5);
        bySchools.setShare(1, 1, 4);
        // Coin 0: 5 + 2; coin 1: 1 + 8.
        Expect.equal("leadingCoin() by its schools added", bySchools.leadingCoin(), 1);
    }

    private static void leadingSchool() {
        OddsLadder x = Ladders.threeCoins();
        Expect.equal("leadingSchool()", x.leadingSchool(), 1);
        Ladders.tossed(x, "HTT");
        // Schools 15 * 25 + 27 and 5 * 25 + 81 + 81.
        Expect.equal("leadingSchool() behind tosses", x.leadingSchool(), 0);
        OddsLadder equal = Ladders.of(5);
        equal.addSchool(1);
        Expect.equal("leadingSchool() of equal ones", equal.leadingSchool(), 0);
        equal.addSchool(2);
        equal.addSchool(2);
        Expect.equal("leadingSchool() of four, the last two equal", equal.leadingSchool(), 2);
        OddsLadder lastAlone = Ladders.of(5);
        lastAlone.addSchool(1);
        lastAlone.setShare(0, 0, 0);
        Expect.equal("leadingSchool() of the last one alone", lastAlone.leadingSchool(), 1);
    }

    private static void leadersRefused() {
        OddsLadder nothing = Ladders.empty();
        Expect.badState("leadingCoin() of an empty ladder", nothing::leadingCoin);
        Expect.badState("leadingSchool() of an empty ladder", nothing::leadingSchool);
        OddsLadder weightless = Ladders.of(5, 6);
        weightless.setShare(0, 0, 0);
        weightless.setShare(0, 1, 0);
        Expect.badState("leadingCoin() without weight", weightless::leadingCoin);
        Expect.badState("leadingSchool() without weight", weightless::leadingSchool);
        OddsLadder noCoin = Ladders.of();
        Expect.badState("leadingSchool() without coins", noCoin::leadingSchool);
        OddsLadder noSchool = Ladders.empty();
        noSchool.addCoin(5);
        Expect.badState("leadingCoin() without schools", noSchool::leadingCoin);
    }

    private static void oddsAgainst() {
        OddsLadder x = Ladders.tossed(Ladders.threeCoins(), "HHHT");
        Expect.equal("oddsAgainst(1, 0)", x.oddsAgainst(1, 0), 3L);
        Expect.equal("oddsAgainst(0, 1)", x.oddsAgainst(0, 1), 0L);
        Expect.equal("oddsAgainst(1, 2)", x.oddsAgainst(1, 2), 972L);
        Expect.equal("oddsAgainst(0, 2)", x.oddsAgainst(0, 2), 277L);
        Expect.equal("oddsAgainst(2, 2)", x.oddsAgainst(2, 2), 1L);
        OddsLadder out = Ladders.tossed(Ladders.of(0, 10), "H");
        Expect.equal("oddsAgainst of a ruled out first one", out.oddsAgainst(0, 1), 0L);
        OddsLadder far = Ladders.tossed(Ladders.of(9, 1), "HHHHHHHHHHHH");
        Expect.equal("oddsAgainst beyond an int", far.oddsAgainst(0, 1), 282_429_536_481L);
    }

    private static void oddsAgainstRefused() {
        OddsLadder x = Ladders.tossed(Ladders.of(0, 10), "H");
        Expect.badState("oddsAgainst(1, 0)", () -> x.oddsAgainst(1, 0));
        Expect.badState("oddsAgainst(0, 0)", () -> x.oddsAgainst(0, 0));
        Expect.noSuch("oddsAgainst(2, 0)", () -> x.oddsAgainst(2, 0));
        Expect.noSuch("oddsAgainst(1, 2)", () -> x.oddsAgainst(1, 2));
        for (int wrong : NEVER) {
            Expect.noSuch("oddsAgainst(" + wrong + ", 0)", () -> x.oddsAgainst(wrong, 0));
            Expect.noSuch("oddsAgainst(0, " + wrong + ")", () -> x.oddsAgainst(0, wrong));
        }
    }
}
