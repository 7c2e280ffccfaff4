/** Promises 32 to 36: leaderBehind, tossesToLead, decisiveTosses, meanTenths, digest. */
public final class WouldBeTest {
    public static void main(String[] args) {
        leaderBehind();
        leaderBehindRefused();
        tossesToLead();
        tossesToLeadWithinTwelve();
        tossesToLeadRefused();
        decisiveTosses();
        meanTenths();
        digest();
        Expect.finish();
    }

    private static void leaderBehind() {
        OddsLadder x = Ladders.of(4, 5, 6);
        long before = x.digest();
        Expect.equal("leaderBehind(true)", x.leaderBehind(true), 2);
        Expect.equal("leaderBehind(false)", x.leaderBehind(false), 0);
        Expect.equal("digest behind leaderBehind", x.digest(), before);
        OddsLadder equal = Ladders.tossed(Ladders.of(2, 6, 4), "H");
        // Behind tails: 16, 24 and 24.
        Expect.equal("leaderBehind of equal ones", equal.leaderBehind(false), 1);
        OddsLadder full = Ladders.tossed(Ladders.of(4, 6, 5), "HTHTHTHTHTHT");
        before = full.digest();
        Expect.equal("the leader of 12", full.leadingCoin(), 2);
        OddsLadder close = Ladders.tossed(Ladders.of(4, 6), "HTHTHTHTHTHT");
        Expect.equal("leaderBehind(true) with 12", close.leaderBehind(true), 1);
        Expect.equal("leaderBehind(false) with 12", close.leaderBehind(false), 0);
        Expect.equal("leaderBehind(true) with 12, by 6 tenths", full.leaderBehind(true), 2);
        Expect.equal("digest behind leaderBehind with 12", full.digest(), before);
        // Behind TTH: 144 and 96; behind HHT: 96 and 144.
        OddsLadder tails = Ladders.tossed(Ladders.of(4, 6), "TT");
        Expect.equal("leaderBehind(true) of more tails", tails.leaderBehind(true), 0);
        OddsLadder heads = Ladders.tossed(Ladders.of(4, 6), "HH");
        Expect.equal("leaderBehind(false) of more heads", heads.leaderBehind(false), 1);
        OddsLadder out = Ladders.tossed(Ladders.of(0, 10, 3), "H");
        Expect.equal("leaderBehind that rules out the leader", out.leaderBehind(false), 2);
    }

    private static void leaderBehindRefused() {
        OddsLadder sure = Ladders.of(10, 10);
        Expect.badState("leaderBehind(false) of 10 tenths", () -> sure.leaderBehind(false));
        Expect.equal("leaderBehind(true) of 10 tenths", sure.leaderBehind(true), 0);
        OddsLadder never = Ladders.of(0);
        Expect.badState("leaderBehind(true) of 0 tenths", () -> never.leaderBehind(true));
        OddsLadder full = Ladders.tossed(Ladders.of(10), "HHHHHHHHHHHH");
        Expect.badState("leaderBehind(false) with 12", () -> full.leaderBehind(false));
        OddsLadder nothing = Ladders.empty();
        Expect.badState("leaderBehind(true) of nothing", () -> nothing.leaderBehind(true));
        Expect.badState("leaderBehind(false) of nothing", () -> nothing.leaderBehind(false));
    }

    private static void toLead(OddsLadder x, int... due) {
        long before = x.digest();
        for (int coin = 0; coin < due.length; coin++) {
            Expect.equal("tossesToLead(" + coin + ")", x.tossesToLead(coin), due[coin]);
        }
        Expect.equal("digest behind tossesToLead", x.digest(), before);
    }

    private static void tossesToLead() {
        // Tails: 4, 12, 1; 20, 12, 9; 100, 12, 81; 500, 12, 729.
        toLead(Ladders.threeCoins(), 1, 0, 3);
        // Three in a row draw level with three heads; it takes a fifth to outweigh four tails.
        toLead(Ladders.tossed(Ladders.of(4, 6), "HHH"), 3, 0);
        toLead(Ladders.tossed(Ladders.of(4, 6), "TTTT"), 0, 5);
        // Equal ones: the second never leads.
        toLead(Ladders.of(5, 5), 0, -1);
        // Heads let the second lead, tails the third; the fourth is always behind one of them.
        toLead(Ladders.of(5, 6, 4, 5), 0, 1, 1, -1);
        toLead(Ladders.tossed(Ladders.of(10, 0, 4), "HT"), -1, -1, 0);
        OddsLadder noShare = Ladders.of(10, 5);
        noShare.setShare(0, 0, 0);
        toLead(noShare, -1, 0);
        OddsLadder weightless = Ladders.of(5);
        weightless.setShare(0, 0, 0);
        toLead(weightless, -1);
        OddsLadder noSchool = Ladders.empty();
        noSchool.addCoin(5);
        toLead(noSchool, -1);
        // Heads: 9, 1; 45, 10; 225, 100; 1125, 1000; 5625, 10000.
        OddsLadder heavy = Ladders.of(5, 10);
        heavy.setShare(0, 0, 9);
        toLead(heavy, 0, 4);
        // Tails: 9, 4; 18, 12; 36, 36; 72, 108: level is not enough for the greater number.
        OddsLadder level = Ladders.of(8, 7);
        level.setShare(0, 0, 9);
        level.setShare(0, 1, 4);
        toLead(level, 0, 3);
        // Turned round: 4, 9; 12, 18; 36, 36: level is enough for the smaller number.
        OddsLadder turned = Ladders.of(7, 8);
        turned.setShare(0, 0, 4);
        turned.setShare(0, 1, 9);
        toLead(turned, 2, 0);
    }

    private static void tossesToLeadWithinTwelve() {
        // 13 * 4^n against 5^n: the twelfth heads is enough; 15 * 4^n against 5^n: it is not.
        OddsLadder far = Ladders.of(4, 5);
        far.addSchool(1);
        far.setShare(0, 0, 9);
        far.setShare(1, 0, 4);
        far.setShare(1, 1, 0);
        toLead(far, 0, 12);
        far.setShare(1, 0, 6);
        toLead(far, 0, -1);
        // 9 * 5^n against 7^n: with 7 heads.
        OddsLadder close = Ladders.of(5, 7);
        close.setShare(0, 0, 9);
        toLead(close, 0, 7);
        // 225 against 21: with 8 more.
        Ladders.tossed(close, "HT");
        toLead(close, 0, 8);
        // 5625 against 441: with 8 more, just so that there are 12 in all.
        Ladders.tossed(close, "HT");
        toLead(close, 0, 8);
        // 28125 against 1323: with 10 more, but only 7 are left.
        close.toss(false);
        toLead(close, 0, -1);
        // With 12 tosses the one that leads has 0, the others have -1.
        toLead(Ladders.tossed(Ladders.of(4, 6, 5), "HTHTHTHTHTHT"), -1, -1, 0);
        toLead(Ladders.tossed(Ladders.of(5, 6), "HTHTHTHTHTH"), 0, 1);
    }

    private static void tossesToLeadRefused() {
        OddsLadder x = Ladders.of(5, 6);
        int[] wrong = {-1, 2, 3, 7, 8, Integer.MIN_VALUE, Integer.MAX_VALUE};
        for (int coin : wrong) {
            Expect.noSuch("tossesToLead(" + coin + ")", () -> x.tossesToLead(coin));
        }
        OddsLadder nothing = Ladders.empty();
        Expect.noSuch("tossesToLead(0) of nothing", () -> nothing.tossesToLead(0));
    }

    private static void decisive(OddsLadder x, int due) {
        long before = x.digest();
        Expect.equal("decisiveTosses() of " + Ladders.row(x), x.decisiveTosses(), due);
        Expect.equal("digest behind decisiveTosses", x.digest(), before);
    }

    private static void decisiveTosses() {
        decisive(Ladders.empty(), 0);
        decisive(Ladders.threeCoins(), 0);
        // Without the heads the coins are level, and the first of them leads.
        decisive(Ladders.tossed(Ladders.of(4, 6), "H"), 1);
        decisive(Ladders.tossed(Ladders.of(4, 6), "T"), 0);
        decisive(Ladders.tossed(Ladders.of(4, 6), "HH"), 0);
        decisive(Ladders.tossed(Ladders.of(4, 6), "HHT"), 2);
        decisive(Ladders.tossed(Ladders.of(4, 6), "THTHH"), 3);
        decisive(Ladders.tossed(Ladders.of(4, 6), "HTT"), 0);
        // Level: the first leads; without a tails the second does.
        decisive(Ladders.tossed(Ladders.of(4, 6), "THTHTH"), 3);
        decisive(Ladders.tossed(Ladders.of(10, 0, 4), "HT"), 2);
        decisive(Ladders.tossed(Ladders.of(6, 10), "HHT"), 1);
        decisive(Ladders.tossed(Ladders.of(4, 6), "HTHTHTHTHTHT"), 6);
    }

    private static void meanTenths() {
        Expect.equal("meanTenths()", Ladders.threeCoins().meanTenths(), 129.0 / 17.0);
        OddsLadder x = Ladders.tossed(Ladders.threeCoins(), "HH");
        Expect.equal("meanTenths() behind heads", x.meanTenths(), 9249.0 / 1073.0);
        Expect.equal("meanTenths() of one coin", Ladders.of(7).meanTenths(), 7.0);
        Expect.equal("meanTenths() of 0 tenths", Ladders.of(0).meanTenths(), 0.0);
        Expect.equal("meanTenths() of 1, 1 and 2", Ladders.of(1, 1, 2).meanTenths(), 4.0 / 3.0);
        OddsLadder nothing = Ladders.empty();
        Expect.badState("meanTenths() of an empty ladder", nothing::meanTenths);
        OddsLadder weightless = Ladders.of(5);
        weightless.setShare(0, 0, 0);
        Expect.badState("meanTenths() without weight", weightless::meanTenths);
    }

    private static void digest() {
        Expect.equal("digest() of an empty ladder", Ladders.empty().digest(),
            digestOf(0, 0, 0, 0, 0, 0, 0, 0));
        Expect.equal("digest() without tosses", Ladders.threeCoins().digest(),
            digestOf(3, 2, 0, 0, 17, 0, 0, 0,
                5, 4, 1, 9, 12, 0, 1, 1, 3,
                3, 6, 1, 1, 0, 1, 11, 1, 9, 1));
        Expect.equal("digest() with tosses",
            Ladders.tossed(Ladders.of(10, 0, 4), "HT").digest(),
            digestOf(3, 1, 2, 1, 24, 2, 3, 2,
                10, 0, -1, 0, 0, -1, 4, 24, 0,
                1, 24, 1, 1, 1,
                1, 1, 0, 2));
        Expect.equal("digest() with more heads than tails",
            Ladders.tossed(Ladders.of(4, 6), "HHT").digest(),
            digestOf(2, 1, 3, 2, 240, 0, 2, 2,
                4, 96, 1, 6, 144, 0,
                1, 240, 1, 1,
                1, 1, 1, 0, 0, 1));
        OddsLadder same = Ladders.threeCoins();
        Expect.equal("digest() once more", same.digest(), same.digest());
    }

    private static long digestOf(long... numbers) {
        long d = 1913;
        for (long x : numbers) {
            d = d * 31 + x;
        }
        return d;
    }
}
