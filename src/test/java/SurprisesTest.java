/** Promises 27 to 31: surpriseOf, allSurprise, greatestSurprise, headsPercent, wouldSurprise. */
public final class SurprisesTest {
    public static void main(String[] args) {
        surprises();
        surprisesBehindAStrike();
        surpriseAtItsEdges();
        surpriseOfRefused();
        withoutTosses();
        headsPercent();
        wouldSurprise();
        wouldSurpriseRefused();
        Expect.finish();
    }

    private static void due(OddsLadder x, int greatest, int... surprises) {
        int sum = 0;
        for (int toss = 0; toss < surprises.length; toss++) {
            Expect.equal("surpriseOf(" + toss + ")", x.surpriseOf(toss), surprises[toss]);
            sum += surprises[toss];
        }
        Expect.equal("allSurprise()", x.allSurprise(), sum);
        Expect.equal("greatestSurprise()", x.greatestSurprise(), greatest);
    }

    private static void surprises() {
        due(Ladders.tossed(Ladders.threeCoins(), "HHHT"), 3, 0, 0, 0, 3);
        due(Ladders.tossed(Ladders.of(5), "HTHT"), 0, 1, 1, 1, 1);
        due(Ladders.tossed(Ladders.of(1), "THHT"), 1, 0, 3, 3, 0);
        due(Ladders.tossed(Ladders.of(10, 0, 4), "HT"), 1, 1, 2);
        due(Ladders.tossed(Ladders.of(10), "HH"), 0, 0, 0);
    }

    private static void surprisesBehindAStrike() {
        OddsLadder x = Ladders.tossed(Ladders.of(9, 1), "HHT");
        // Tails with 81 and 1 of 82: 90 of 820; with 9 and 1 of 10: 18 of 100; with 1 and 1: 10 of 20.
        due(x, 2, 1, 0, 3);
        x.strike(0);
        due(x, 1, 1, 2);
        x.strike(0);
        due(x, 0, 1);
    }

    private static void surpriseAtItsEdges() {
        // Just 5 tenths are 10 / 2, so 1; 2 tenths are 8 of 10 when doubled twice, 1 tenth thrice.
        for (int tenths = 1; tenths <= 10; tenths++) {
            int due = tenths == 1 ? 3 : tenths == 2 ? 2 : tenths <= 5 ? 1 : 0;
            Expect.equal("heads of " + tenths, Ladders.of(tenths).wouldSurprise(true), due);
            Expect.equal("tails of " + (10 - tenths),
                Ladders.of(10 - tenths).wouldSurprise(false), due);
        }
        // 11 heads leave 9 * 10^11 to each of seven coins, 1 to the one that alone falls on tails.
        OddsLadder rare = Ladders.empty();
        rare.addSchool(1);
        for (int coin = 0; coin < 7; coin++) {
            rare.addCoin(10);
            rare.setShare(0, coin, 9);
        }
        rare.addCoin(1);
        Ladders.tossed(rare, "HHHHHHHHHHH");
        // Ten times 63 * 10^11 and 1, against 9: some 7.0e12, between 2^42 and 2^43.
        Expect.equal("the rarest tails", rare.wouldSurprise(false), 42);
        Expect.equal("the rarest tails, tossed", rare.toss(false), 42);
        Expect.equal("the rarest tails, asked", rare.surpriseOf(11), 42);
        Expect.equal("greatestSurprise of twelve", rare.greatestSurprise(), 11);
    }

    private static void surpriseOfRefused() {
        OddsLadder x = Ladders.tossed(Ladders.of(5), "HT");
        int[] wrong = {-1, 2, 3, 11, 12, 13, Integer.MIN_VALUE, Integer.MAX_VALUE};
        for (int toss : wrong) {
            Expect.noSuch("surpriseOf(" + toss + ")", () -> x.surpriseOf(toss));
        }
        OddsLadder nothing = Ladders.empty();
        Expect.noSuch("surpriseOf(0) without tosses", () -> nothing.surpriseOf(0));
    }

    private static void withoutTosses() {
        Expect.equal("allSurprise() without tosses", Ladders.threeCoins().allSurprise(), 0);
        Expect.equal("greatestSurprise() without tosses", Ladders.threeCoins().greatestSurprise(), -1);
        Expect.equal("allSurprise() of an empty ladder", Ladders.empty().allSurprise(), 0);
        Expect.equal("greatestSurprise() of an empty ladder", Ladders.empty().greatestSurprise(), -1);
    }

    private static void headsPercent() {
        OddsLadder x = Ladders.threeCoins();
        // 129 of 170, then 1073 of 1290.
        Expect.equal("headsPercent()", x.headsPercent(), 75);
        x.toss(true);
        Expect.equal("headsPercent() behind heads", x.headsPercent(), 83);
        Expect.equal("headsPercent() of 10 tenths", Ladders.of(10).headsPercent(), 100);
        Expect.equal("headsPercent() of 0 tenths", Ladders.of(0).headsPercent(), 0);
        Expect.equal("headsPercent() of 3 tenths", Ladders.of(3).headsPercent(), 30);
        Expect.equal("headsPercent() of 1, 1 and 3 tenths", Ladders.of(1, 1, 3).headsPercent(), 16);
        OddsLadder weightless = Ladders.of(5);
        weightless.setShare(0, 0, 0);
        Expect.badState("headsPercent() without weight", weightless::headsPercent);
        OddsLadder nothing = Ladders.empty();
        Expect.badState("headsPercent() of an empty ladder", nothing::headsPercent);
    }

    private static void wouldSurprise() {
        OddsLadder x = Ladders.threeCoins();
        long before = x.digest();
        Expect.equal("wouldSurprise(true)", x.wouldSurprise(true), 0);
        Expect.equal("wouldSurprise(false)", x.wouldSurprise(false), 2);
        Expect.equal("digest behind wouldSurprise", x.digest(), before);
        Ladders.tossed(x, "HHH");
        Expect.equal("wouldSurprise(false) behind heads", x.wouldSurprise(false), 3);
        OddsLadder full = Ladders.tossed(Ladders.of(2), "HTHTHTHTHTHT");
        before = full.digest();
        Expect.equal("wouldSurprise(true) with 12", full.wouldSurprise(true), 2);
        Expect.equal("wouldSurprise(false) with 12", full.wouldSurprise(false), 0);
        Expect.equal("digest behind wouldSurprise with 12", full.digest(), before);
    }

    private static void wouldSurpriseRefused() {
        OddsLadder sure = Ladders.of(10);
        Expect.badState("wouldSurprise(false) of 10 tenths", () -> sure.wouldSurprise(false));
        OddsLadder never = Ladders.tossed(Ladders.of(0), "TTTTTTTTTTTT");
        Expect.badState("wouldSurprise(true) of 0 tenths, with 12", () -> never.wouldSurprise(true));
        OddsLadder nothing = Ladders.empty();
        Expect.badState("wouldSurprise(true) of nothing", () -> nothing.wouldSurprise(true));
        Expect.badState("wouldSurprise(false) of nothing", () -> nothing.wouldSurprise(false));
    }
}
